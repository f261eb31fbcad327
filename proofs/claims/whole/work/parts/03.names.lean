theorem dX0_init_49 : decode cX0_init 49 = .ok (.aload_n 0, 1) := by decide +kernel
theorem dX0_init_50 : decode cX0_init 50 = .ok (.bipush 12, 2) := by decide +kernel
theorem dX0_init_52 : decode cX0_init 52 = .ok (.newarray .int, 2) := by decide +kernel
theorem dX0_init_54 : decode cX0_init 54 = .ok (.putfield 27, 3) := by decide +kernel
theorem dX0_init_57 : decode cX0_init 57 = .ok (.aload_n 0, 1) := by decide +kernel
theorem dX0_init_58 : decode cX0_init 58 = .ok (.bipush 12, 2) := by decide +kernel
theorem dX0_init_60 : decode cX0_init 60 = .ok (.newarray .int, 2) := by decide +kernel
theorem dX0_init_62 : decode cX0_init 62 = .ok (.putfield 30, 3) := by decide +kernel
theorem dX0_init_65 : decode cX0_init 65 = .ok (.aload_n 0, 1) := by decide +kernel
theorem dX0_init_66 : decode cX0_init 66 = .ok (.iconst 0, 1) := by decide +kernel
theorem dX0_init_67 : decode cX0_init 67 = .ok (.putfield 33, 3) := by decide +kernel
theorem dX0_init_70 : decode cX0_init 70 = .ok (.aload_n 0, 1) := by decide +kernel
theorem dX0_init_71 : decode cX0_init 71 = .ok (.iconst 1, 1) := by decide +kernel
theorem dX0_init_72 : decode cX0_init 72 = .ok (.putfield 37, 3) := by decide +kernel
theorem dX0_init_75 : decode cX0_init 75 = .ok (.aload_n 0, 1) := by decide +kernel
theorem dX0_init_76 : decode cX0_init 76 = .ok (.iconst 0, 1) := by decide +kernel
theorem dX0_init_77 : decode cX0_init 77 = .ok (.putfield 40, 3) := by decide +kernel
theorem dX0_init_80 : decode cX0_init 80 = .ok (.return_, 1) := by decide +kernel
set_option maxRecDepth 20000 in
theorem ggX0_fill_X0_fillProtected : GoodIn wsX0_fill wsX0_fillProtected := goodIn_r _ [12, 13, 2, 14, 15, 16, 17, 11, 18, 19, 20, 21, 22, 23, 24, 25, 48, 49, 50, 51, 52, 53, 54, 55, 56, 57] (by decide +kernel) (by decide +kernel)
set_option maxRecDepth 20000 in
theorem gX0_fill_X0_fillProtected : GoodIn wsX0_fill (wsV RX0 51 RX0 yX0_fillProtected wsX0_fillProtected) := goodIn_app (goodIn_of _ (by decide +kernel)) ggX0_fill_X0_fillProtected
set_option maxRecDepth 20000 in
theorem ggX0_fill_X5_sumUp : GoodIn wsX0_fill wsX5_sumUp := goodIn_r _ [28] (by decide +kernel) (by decide +kernel)
set_option maxRecDepth 20000 in
theorem gX0_fill_X5_sumUp_n55 : GoodIn wsX0_fill (wsX5_sumUp) := ggX0_fill_X5_sumUp
set_option maxRecDepth 20000 in
theorem ggX0_fill_X0_fillRequired : GoodIn wsX0_fill wsX0_fillRequired := goodIn_r _ [32, 33, 2, 34, 35, 36, 37, 38, 39, 40, 41, 42, 48, 49, 50, 51, 52, 53, 54, 55, 56, 57, 43, 44, 45, 46, 47] (by decide +kernel) (by decide +kernel)
set_option maxRecDepth 20000 in
theorem gX0_fill_X0_fillRequired : GoodIn wsX0_fill (wsV RX0 59 RX0 yX0_fillRequired wsX0_fillRequired) := goodIn_app (goodIn_of _ (by decide +kernel)) ggX0_fill_X0_fillRequired
theorem dX0_fill_0 : decode cX0_fill 0 = .ok (.aload_n 0, 1) := by decide +kernel
theorem dX0_fill_1 : decode cX0_fill 1 = .ok (.aload_n 1, 1) := by decide +kernel
theorem dX0_fill_2 : decode cX0_fill 2 = .ok (.getfield 44, 3) := by decide +kernel
theorem dX0_fill_5 : decode cX0_fill 5 = .ok (.putfield 33, 3) := by decide +kernel
theorem dX0_fill_8 : decode cX0_fill 8 = .ok (.aload_n 0, 1) := by decide +kernel
theorem dX0_fill_9 : decode cX0_fill 9 = .ok (.iconst 1, 1) := by decide +kernel
theorem dX0_fill_10 : decode cX0_fill 10 = .ok (.aload_n 0, 1) := by decide +kernel
theorem dX0_fill_11 : decode cX0_fill 11 = .ok (.getfield 33, 3) := by decide +kernel
theorem dX0_fill_14 : decode cX0_fill 14 = .ok (.ishl, 1) := by decide +kernel
theorem dX0_fill_15 : decode cX0_fill 15 = .ok (.putfield 37, 3) := by decide +kernel
theorem dX0_fill_18 : decode cX0_fill 18 = .ok (.aload_n 0, 1) := by decide +kernel
theorem dX0_fill_19 : decode cX0_fill 19 = .ok (.aload_n 0, 1) := by decide +kernel
theorem dX0_fill_20 : decode cX0_fill 20 = .ok (.getfield 9, 3) := by decide +kernel
theorem dX0_fill_23 : decode cX0_fill 23 = .ok (.aload_n 1, 1) := by decide +kernel
theorem dX0_fill_24 : decode cX0_fill 24 = .ok (.getfield 47, 3) := by decide +kernel
theorem dX0_fill_27 : decode cX0_fill 27 = .ok (.iconst 1, 1) := by decide +kernel
theorem dX0_fill_28 : decode cX0_fill 28 = .ok (.aaload, 1) := by decide +kernel
theorem dX0_fill_29 : decode cX0_fill 29 = .ok (.aload_n 1, 1) := by decide +kernel
theorem dX0_fill_30 : decode cX0_fill 30 = .ok (.getfield 47, 3) := by decide +kernel
theorem dX0_fill_33 : decode cX0_fill 33 = .ok (.iconst 2, 1) := by decide +kernel
theorem dX0_fill_34 : decode cX0_fill 34 = .ok (.aaload, 1) := by decide +kernel
theorem dX0_fill_35 : decode cX0_fill 35 = .ok (.iconst 1, 1) := by decide +kernel
theorem dX0_fill_36 : decode cX0_fill 36 = .ok (.iload_n 2, 1) := by decide +kernel
theorem dX0_fill_37 : decode cX0_fill 37 = .ok (.invokevirtual 51, 3) := by decide +kernel
theorem dX0_fill_40 : decode cX0_fill 40 = .ok (.aload_n 0, 1) := by decide +kernel
theorem dX0_fill_41 : decode cX0_fill 41 = .ok (.aload_n 0, 1) := by decide +kernel
theorem dX0_fill_42 : decode cX0_fill 42 = .ok (.getfield 15, 3) := by decide +kernel
theorem dX0_fill_45 : decode cX0_fill 45 = .ok (.aload_n 1, 1) := by decide +kernel
theorem dX0_fill_46 : decode cX0_fill 46 = .ok (.getfield 47, 3) := by decide +kernel
theorem dX0_fill_49 : decode cX0_fill 49 = .ok (.iconst 0, 1) := by decide +kernel
theorem dX0_fill_50 : decode cX0_fill 50 = .ok (.aaload, 1) := by decide +kernel
theorem dX0_fill_51 : decode cX0_fill 51 = .ok (.aload_n 1, 1) := by decide +kernel
theorem dX0_fill_52 : decode cX0_fill 52 = .ok (.getfield 47, 3) := by decide +kernel
theorem dX0_fill_55 : decode cX0_fill 55 = .ok (.iconst 3, 1) := by decide +kernel
theorem dX0_fill_56 : decode cX0_fill 56 = .ok (.aaload, 1) := by decide +kernel
theorem dX0_fill_57 : decode cX0_fill 57 = .ok (.iconst (-1), 1) := by decide +kernel
theorem dX0_fill_58 : decode cX0_fill 58 = .ok (.iload_n 3, 1) := by decide +kernel
theorem dX0_fill_59 : decode cX0_fill 59 = .ok (.invokevirtual 51, 3) := by decide +kernel
theorem dX0_fill_62 : decode cX0_fill 62 = .ok (.aload_n 0, 1) := by decide +kernel
theorem dX0_fill_63 : decode cX0_fill 63 = .ok (.getfield 18, 3) := by decide +kernel
theorem dX0_fill_66 : decode cX0_fill 66 = .ok (.aload_n 1, 1) := by decide +kernel
theorem dX0_fill_67 : decode cX0_fill 67 = .ok (.getfield 47, 3) := by decide +kernel
theorem dX0_fill_70 : decode cX0_fill 70 = .ok (.iconst 0, 1) := by decide +kernel
theorem dX0_fill_71 : decode cX0_fill 71 = .ok (.aaload, 1) := by decide +kernel
theorem dX0_fill_72 : decode cX0_fill 72 = .ok (.aload_n 0, 1) := by decide +kernel
theorem dX0_fill_73 : decode cX0_fill 73 = .ok (.getfield 33, 3) := by decide +kernel
theorem dX0_fill_76 : decode cX0_fill 76 = .ok (.invokestatic 55, 3) := by decide +kernel
theorem dX0_fill_79 : decode cX0_fill 79 = .ok (.aload_n 0, 1) := by decide +kernel
theorem dX0_fill_80 : decode cX0_fill 80 = .ok (.aload_n 1, 1) := by decide +kernel
theorem dX0_fill_81 : decode cX0_fill 81 = .ok (.invokevirtual 59, 3) := by decide +kernel
theorem dX0_fill_84 : decode cX0_fill 84 = .ok (.return_, 1) := by decide +kernel
set_option maxRecDepth 20000 in
theorem ggX0_fillWeights_X0_fillProtected : GoodIn wsX0_fillWeights wsX0_fillProtected := goodIn_r _ [12, 13, 14, 15, 16, 17, 18, 11, 19, 20, 21, 22, 23, 24, 25, 26, 32, 33, 34, 35, 36, 37, 38, 39, 40, 41] (by decide +kernel) (by decide +kernel)
set_option maxRecDepth 20000 in
theorem gX0_fillWeights_X0_fillProtected : GoodIn wsX0_fillWeights (wsV RX0 51 RX0 yX0_fillProtected wsX0_fillProtected) := goodIn_app (goodIn_of _ (by decide +kernel)) ggX0_fillWeights_X0_fillProtected
theorem dX0_fillWeights_0 : decode cX0_fillWeights 0 = .ok (.aload_n 1, 1) := by decide +kernel
theorem dX0_fillWeights_1 : decode cX0_fillWeights 1 = .ok (.getfield 47, 3) := by decide +kernel
theorem dX0_fillWeights_4 : decode cX0_fillWeights 4 = .ok (.iconst 2, 1) := by decide +kernel
theorem dX0_fillWeights_5 : decode cX0_fillWeights 5 = .ok (.aaload, 1) := by decide +kernel
theorem dX0_fillWeights_6 : decode cX0_fillWeights 6 = .ok (.iconst 0, 1) := by decide +kernel
theorem dX0_fillWeights_7 : decode cX0_fillWeights 7 = .ok (.aload_n 0, 1) := by decide +kernel
theorem dX0_fillWeights_8 : decode cX0_fillWeights 8 = .ok (.getfield 30, 3) := by decide +kernel
theorem dX0_fillWeights_11 : decode cX0_fillWeights 11 = .ok (.iconst 0, 1) := by decide +kernel
theorem dX0_fillWeights_12 : decode cX0_fillWeights 12 = .ok (.bipush 12, 2) := by decide +kernel
theorem dX0_fillWeights_14 : decode cX0_fillWeights 14 = .ok (.invokestatic 63, 3) := by decide +kernel
theorem dX0_fillWeights_17 : decode cX0_fillWeights 17 = .ok (.aload_n 0, 1) := by decide +kernel
theorem dX0_fillWeights_18 : decode cX0_fillWeights 18 = .ok (.getfield 30, 3) := by decide +kernel
theorem dX0_fillWeights_21 : decode cX0_fillWeights 21 = .ok (.iload_n 3, 1) := by decide +kernel
theorem dX0_fillWeights_22 : decode cX0_fillWeights 22 = .ok (.dup2, 1) := by decide +kernel
theorem dX0_fillWeights_23 : decode cX0_fillWeights 23 = .ok (.iaload, 1) := by decide +kernel
theorem dX0_fillWeights_24 : decode cX0_fillWeights 24 = .ok (.iload 4, 2) := by decide +kernel
theorem dX0_fillWeights_26 : decode cX0_fillWeights 26 = .ok (.iadd, 1) := by decide +kernel
theorem dX0_fillWeights_27 : decode cX0_fillWeights 27 = .ok (.iastore, 1) := by decide +kernel
theorem dX0_fillWeights_28 : decode cX0_fillWeights 28 = .ok (.aload_n 0, 1) := by decide +kernel
theorem dX0_fillWeights_29 : decode cX0_fillWeights 29 = .ok (.aload_n 0, 1) := by decide +kernel
theorem dX0_fillWeights_30 : decode cX0_fillWeights 30 = .ok (.getfield 9, 3) := by decide +kernel
theorem dX0_fillWeights_33 : decode cX0_fillWeights 33 = .ok (.aload_n 1, 1) := by decide +kernel
theorem dX0_fillWeights_34 : decode cX0_fillWeights 34 = .ok (.getfield 47, 3) := by decide +kernel
theorem dX0_fillWeights_37 : decode cX0_fillWeights 37 = .ok (.iconst 1, 1) := by decide +kernel
theorem dX0_fillWeights_38 : decode cX0_fillWeights 38 = .ok (.aaload, 1) := by decide +kernel
theorem dX0_fillWeights_39 : decode cX0_fillWeights 39 = .ok (.aload_n 0, 1) := by decide +kernel
theorem dX0_fillWeights_40 : decode cX0_fillWeights 40 = .ok (.getfield 30, 3) := by decide +kernel
theorem dX0_fillWeights_43 : decode cX0_fillWeights 43 = .ok (.iconst 1, 1) := by decide +kernel
theorem dX0_fillWeights_44 : decode cX0_fillWeights 44 = .ok (.iload_n 2, 1) := by decide +kernel
theorem dX0_fillWeights_45 : decode cX0_fillWeights 45 = .ok (.invokevirtual 51, 3) := by decide +kernel
theorem dX0_fillWeights_48 : decode cX0_fillWeights 48 = .ok (.return_, 1) := by decide +kernel
set_option maxRecDepth 20000 in
theorem ggX0_fillProtected_X0_sortByChange : GoodIn wsX0_fillProtected wsX0_sortByChange := goodIn_r _ [8, 2, 3, 16, 17, 18, 19, 20, 21, 22, 23, 24, 25] (by decide +kernel) (by decide +kernel)
set_option maxRecDepth 20000 in
theorem gX0_fillProtected_X0_sortByChange : GoodIn wsX0_fillProtected (wsV RX0 69 RX0 yX0_sortByChange wsX0_sortByChange) := goodIn_app (goodIn_of _ (by decide +kernel)) ggX0_fillProtected_X0_sortByChange
set_option maxRecDepth 20000 in
theorem ggX0_fillProtected_J6_bitCount_0f7a4 : GoodIn wsX0_fillProtected wsJ6_bitCount_0f7a4 := goodIn_r _ [12, 13, 14, 15] (by decide +kernel) (by decide +kernel)
set_option maxRecDepth 20000 in
theorem gX0_fillProtected_J6_bitCount_0f7a4 : GoodIn wsX0_fillProtected (va_wsS RX0 73 yJ6_bitCount_0f7a4 wsJ6_bitCount_0f7a4) := goodIn_app (goodIn_of _ (by decide +kernel)) ggX0_fillProtected_J6_bitCount_0f7a4
theorem dX0_fillProtected_0 : decode cX0_fillProtected 0 = .ok (.aload_n 0, 1) := by decide +kernel
theorem dX0_fillProtected_1 : decode cX0_fillProtected 1 = .ok (.aload_n 3, 1) := by decide +kernel
theorem dX0_fillProtected_2 : decode cX0_fillProtected 2 = .ok (.invokevirtual 69, 3) := by decide +kernel
theorem dX0_fillProtected_5 : decode cX0_fillProtected 5 = .ok (.aload_n 1, 1) := by decide +kernel
theorem dX0_fillProtected_6 : decode cX0_fillProtected 6 = .ok (.iconst 0, 1) := by decide +kernel
theorem dX0_fillProtected_7 : decode cX0_fillProtected 7 = .ok (.iconst 0, 1) := by decide +kernel
theorem dX0_fillProtected_8 : decode cX0_fillProtected 8 = .ok (.iastore, 1) := by decide +kernel
theorem dX0_fillProtected_9 : decode cX0_fillProtected 9 = .ok (.aload_n 0, 1) := by decide +kernel
theorem dX0_fillProtected_10 : decode cX0_fillProtected 10 = .ok (.getfield 24, 3) := by decide +kernel
theorem dX0_fillProtected_13 : decode cX0_fillProtected 13 = .ok (.iconst 0, 1) := by decide +kernel
theorem dX0_fillProtected_14 : decode cX0_fillProtected 14 = .ok (.iconst 0, 1) := by decide +kernel
theorem dX0_fillProtected_15 : decode cX0_fillProtected 15 = .ok (.iastore, 1) := by decide +kernel
theorem dX0_fillProtected_16 : decode cX0_fillProtected 16 = .ok (.iconst 0, 1) := by decide +kernel
theorem dX0_fillProtected_17 : decode cX0_fillProtected 17 = .ok (.istore 6, 2) := by decide +kernel
theorem dX0_fillProtected_19 : decode cX0_fillProtected 19 = .ok (.iload 6, 2) := by decide +kernel
theorem dX0_fillProtected_21 : decode cX0_fillProtected 21 = .ok (.aload_n 0, 1) := by decide +kernel
theorem dX0_fillProtected_22 : decode cX0_fillProtected 22 = .ok (.getfield 33, 3) := by decide +kernel
theorem dX0_fillProtected_25 : decode cX0_fillProtected 25 = .ok (.if_icmp .ge 113, 3) := by decide +kernel
theorem dX0_fillProtected_28 : decode cX0_fillProtected 28 = .ok (.aload_n 0, 1) := by decide +kernel
theorem dX0_fillProtected_29 : decode cX0_fillProtected 29 = .ok (.getfield 27, 3) := by decide +kernel
theorem dX0_fillProtected_32 : decode cX0_fillProtected 32 = .ok (.iload 6, 2) := by decide +kernel
theorem dX0_fillProtected_34 : decode cX0_fillProtected 34 = .ok (.iaload, 1) := by decide +kernel
theorem dX0_fillProtected_35 : decode cX0_fillProtected 35 = .ok (.istore 7, 2) := by decide +kernel
theorem dX0_fillProtected_37 : decode cX0_fillProtected 37 = .ok (.aload_n 2, 1) := by decide +kernel
theorem dX0_fillProtected_38 : decode cX0_fillProtected 38 = .ok (.iload 7, 2) := by decide +kernel
theorem dX0_fillProtected_40 : decode cX0_fillProtected 40 = .ok (.iaload, 1) := by decide +kernel
theorem dX0_fillProtected_41 : decode cX0_fillProtected 41 = .ok (.iload 4, 2) := by decide +kernel
theorem dX0_fillProtected_43 : decode cX0_fillProtected 43 = .ok (.aload_n 3, 1) := by decide +kernel
theorem dX0_fillProtected_44 : decode cX0_fillProtected 44 = .ok (.iload 7, 2) := by decide +kernel
theorem dX0_fillProtected_46 : decode cX0_fillProtected 46 = .ok (.iaload, 1) := by decide +kernel
theorem dX0_fillProtected_47 : decode cX0_fillProtected 47 = .ok (.imul, 1) := by decide +kernel
theorem dX0_fillProtected_48 : decode cX0_fillProtected 48 = .ok (.iadd, 1) := by decide +kernel
theorem dX0_fillProtected_49 : decode cX0_fillProtected 49 = .ok (.istore 8, 2) := by decide +kernel
theorem dX0_fillProtected_51 : decode cX0_fillProtected 51 = .ok (.iconst 1, 1) := by decide +kernel
theorem dX0_fillProtected_52 : decode cX0_fillProtected 52 = .ok (.iload 6, 2) := by decide +kernel
theorem dX0_fillProtected_54 : decode cX0_fillProtected 54 = .ok (.ishl, 1) := by decide +kernel
theorem dX0_fillProtected_55 : decode cX0_fillProtected 55 = .ok (.istore 9, 2) := by decide +kernel
theorem dX0_fillProtected_57 : decode cX0_fillProtected 57 = .ok (.iconst 0, 1) := by decide +kernel
theorem dX0_fillProtected_58 : decode cX0_fillProtected 58 = .ok (.istore 10, 2) := by decide +kernel
theorem dX0_fillProtected_60 : decode cX0_fillProtected 60 = .ok (.iload 10, 2) := by decide +kernel
theorem dX0_fillProtected_62 : decode cX0_fillProtected 62 = .ok (.iload 9, 2) := by decide +kernel
theorem dX0_fillProtected_64 : decode cX0_fillProtected 64 = .ok (.if_icmp .ge 68, 3) := by decide +kernel
theorem dX0_fillProtected_67 : decode cX0_fillProtected 67 = .ok (.aload_n 0, 1) := by decide +kernel
theorem dX0_fillProtected_68 : decode cX0_fillProtected 68 = .ok (.getfield 24, 3) := by decide +kernel
theorem dX0_fillProtected_71 : decode cX0_fillProtected 71 = .ok (.iload 10, 2) := by decide +kernel
theorem dX0_fillProtected_73 : decode cX0_fillProtected 73 = .ok (.iaload, 1) := by decide +kernel
theorem dX0_fillProtected_74 : decode cX0_fillProtected 74 = .ok (.iconst 1, 1) := by decide +kernel
theorem dX0_fillProtected_75 : decode cX0_fillProtected 75 = .ok (.iload 7, 2) := by decide +kernel
theorem dX0_fillProtected_77 : decode cX0_fillProtected 77 = .ok (.ishl, 1) := by decide +kernel
theorem dX0_fillProtected_78 : decode cX0_fillProtected 78 = .ok (.ior, 1) := by decide +kernel
theorem dX0_fillProtected_79 : decode cX0_fillProtected 79 = .ok (.istore 11, 2) := by decide +kernel
theorem dX0_fillProtected_81 : decode cX0_fillProtected 81 = .ok (.aload_n 0, 1) := by decide +kernel
theorem dX0_fillProtected_82 : decode cX0_fillProtected 82 = .ok (.getfield 24, 3) := by decide +kernel
theorem dX0_fillProtected_85 : decode cX0_fillProtected 85 = .ok (.iload 9, 2) := by decide +kernel
theorem dX0_fillProtected_87 : decode cX0_fillProtected 87 = .ok (.iload 10, 2) := by decide +kernel
theorem dX0_fillProtected_89 : decode cX0_fillProtected 89 = .ok (.ior, 1) := by decide +kernel
theorem dX0_fillProtected_90 : decode cX0_fillProtected 90 = .ok (.iload 11, 2) := by decide +kernel
theorem dX0_fillProtected_92 : decode cX0_fillProtected 92 = .ok (.iastore, 1) := by decide +kernel
theorem dX0_fillProtected_93 : decode cX0_fillProtected 93 = .ok (.aload_n 1, 1) := by decide +kernel
theorem dX0_fillProtected_94 : decode cX0_fillProtected 94 = .ok (.iload 11, 2) := by decide +kernel
theorem dX0_fillProtected_96 : decode cX0_fillProtected 96 = .ok (.aload_n 1, 1) := by decide +kernel
theorem dX0_fillProtected_97 : decode cX0_fillProtected 97 = .ok (.aload_n 0, 1) := by decide +kernel
theorem dX0_fillProtected_98 : decode cX0_fillProtected 98 = .ok (.getfield 24, 3) := by decide +kernel
theorem dX0_fillProtected_101 : decode cX0_fillProtected 101 = .ok (.iload 10, 2) := by decide +kernel
theorem dX0_fillProtected_103 : decode cX0_fillProtected 103 = .ok (.iaload, 1) := by decide +kernel
theorem dX0_fillProtected_104 : decode cX0_fillProtected 104 = .ok (.iaload, 1) := by decide +kernel
theorem dX0_fillProtected_105 : decode cX0_fillProtected 105 = .ok (.iload 11, 2) := by decide +kernel
theorem dX0_fillProtected_107 : decode cX0_fillProtected 107 = .ok (.invokestatic 73, 3) := by decide +kernel
theorem dX0_fillProtected_110 : decode cX0_fillProtected 110 = .ok (.iload 5, 2) := by decide +kernel
theorem dX0_fillProtected_112 : decode cX0_fillProtected 112 = .ok (.if_icmp .gt 8, 3) := by decide +kernel
theorem dX0_fillProtected_115 : decode cX0_fillProtected 115 = .ok (.iload 8, 2) := by decide +kernel
theorem dX0_fillProtected_117 : decode cX0_fillProtected 117 = .ok (.goto 7, 3) := by decide +kernel
theorem dX0_fillProtected_120 : decode cX0_fillProtected 120 = .ok (.aload_n 2, 1) := by decide +kernel
theorem dX0_fillProtected_121 : decode cX0_fillProtected 121 = .ok (.iload 7, 2) := by decide +kernel
theorem dX0_fillProtected_123 : decode cX0_fillProtected 123 = .ok (.iaload, 1) := by decide +kernel
theorem dX0_fillProtected_124 : decode cX0_fillProtected 124 = .ok (.iadd, 1) := by decide +kernel
theorem dX0_fillProtected_125 : decode cX0_fillProtected 125 = .ok (.iastore, 1) := by decide +kernel
theorem dX0_fillProtected_126 : decode cX0_fillProtected 126 = .ok (.iinc 10 1, 3) := by decide +kernel
theorem dX0_fillProtected_129 : decode cX0_fillProtected 129 = .ok (.goto (-69), 3) := by decide +kernel
theorem dX0_fillProtected_132 : decode cX0_fillProtected 132 = .ok (.iinc 6 1, 3) := by decide +kernel
theorem dX0_fillProtected_135 : decode cX0_fillProtected 135 = .ok (.goto (-116), 3) := by decide +kernel
theorem dX0_fillProtected_138 : decode cX0_fillProtected 138 = .ok (.return_, 1) := by decide +kernel
theorem dX0_sortByChange_0 : decode cX0_sortByChange 0 = .ok (.iconst 0, 1) := by decide +kernel
theorem dX0_sortByChange_1 : decode cX0_sortByChange 1 = .ok (.istore_n 2, 1) := by decide +kernel
theorem dX0_sortByChange_2 : decode cX0_sortByChange 2 = .ok (.iload_n 2, 1) := by decide +kernel
theorem dX0_sortByChange_3 : decode cX0_sortByChange 3 = .ok (.aload_n 0, 1) := by decide +kernel
theorem dX0_sortByChange_4 : decode cX0_sortByChange 4 = .ok (.getfield 33, 3) := by decide +kernel
theorem dX0_sortByChange_7 : decode cX0_sortByChange 7 = .ok (.if_icmp .ge 58, 3) := by decide +kernel
theorem dX0_sortByChange_10 : decode cX0_sortByChange 10 = .ok (.iload_n 2, 1) := by decide +kernel
theorem dX0_sortByChange_11 : decode cX0_sortByChange 11 = .ok (.istore_n 3, 1) := by decide +kernel
theorem dX0_sortByChange_12 : decode cX0_sortByChange 12 = .ok (.iload_n 3, 1) := by decide +kernel
theorem dX0_sortByChange_13 : decode cX0_sortByChange 13 = .ok (.ifCond .le 39, 3) := by decide +kernel
theorem dX0_sortByChange_16 : decode cX0_sortByChange 16 = .ok (.aload_n 1, 1) := by decide +kernel
theorem dX0_sortByChange_17 : decode cX0_sortByChange 17 = .ok (.aload_n 0, 1) := by decide +kernel
theorem dX0_sortByChange_18 : decode cX0_sortByChange 18 = .ok (.getfield 27, 3) := by decide +kernel
theorem dX0_sortByChange_21 : decode cX0_sortByChange 21 = .ok (.iload_n 3, 1) := by decide +kernel
theorem dX0_sortByChange_22 : decode cX0_sortByChange 22 = .ok (.iconst 1, 1) := by decide +kernel
theorem dX0_sortByChange_23 : decode cX0_sortByChange 23 = .ok (.isub, 1) := by decide +kernel
theorem dX0_sortByChange_24 : decode cX0_sortByChange 24 = .ok (.iaload, 1) := by decide +kernel
theorem dX0_sortByChange_25 : decode cX0_sortByChange 25 = .ok (.iaload, 1) := by decide +kernel
theorem dX0_sortByChange_26 : decode cX0_sortByChange 26 = .ok (.aload_n 1, 1) := by decide +kernel
theorem dX0_sortByChange_27 : decode cX0_sortByChange 27 = .ok (.iload_n 2, 1) := by decide +kernel
theorem dX0_sortByChange_28 : decode cX0_sortByChange 28 = .ok (.iaload, 1) := by decide +kernel
theorem dX0_sortByChange_29 : decode cX0_sortByChange 29 = .ok (.if_icmp .ge 23, 3) := by decide +kernel
theorem dX0_sortByChange_32 : decode cX0_sortByChange 32 = .ok (.aload_n 0, 1) := by decide +kernel
theorem dX0_sortByChange_33 : decode cX0_sortByChange 33 = .ok (.getfield 27, 3) := by decide +kernel
theorem dX0_sortByChange_36 : decode cX0_sortByChange 36 = .ok (.iload_n 3, 1) := by decide +kernel
theorem dX0_sortByChange_37 : decode cX0_sortByChange 37 = .ok (.aload_n 0, 1) := by decide +kernel
theorem dX0_sortByChange_38 : decode cX0_sortByChange 38 = .ok (.getfield 27, 3) := by decide +kernel
theorem dX0_sortByChange_41 : decode cX0_sortByChange 41 = .ok (.iload_n 3, 1) := by decide +kernel
theorem dX0_sortByChange_42 : decode cX0_sortByChange 42 = .ok (.iconst 1, 1) := by decide +kernel
theorem dX0_sortByChange_43 : decode cX0_sortByChange 43 = .ok (.isub, 1) := by decide +kernel
theorem dX0_sortByChange_44 : decode cX0_sortByChange 44 = .ok (.iaload, 1) := by decide +kernel
theorem dX0_sortByChange_45 : decode cX0_sortByChange 45 = .ok (.iastore, 1) := by decide +kernel
theorem dX0_sortByChange_46 : decode cX0_sortByChange 46 = .ok (.iinc 3 (-1), 3) := by decide +kernel
theorem dX0_sortByChange_49 : decode cX0_sortByChange 49 = .ok (.goto (-37), 3) := by decide +kernel
theorem dX0_sortByChange_52 : decode cX0_sortByChange 52 = .ok (.aload_n 0, 1) := by decide +kernel
theorem dX0_sortByChange_53 : decode cX0_sortByChange 53 = .ok (.getfield 27, 3) := by decide +kernel
theorem dX0_sortByChange_56 : decode cX0_sortByChange 56 = .ok (.iload_n 3, 1) := by decide +kernel
theorem dX0_sortByChange_57 : decode cX0_sortByChange 57 = .ok (.iload_n 2, 1) := by decide +kernel
theorem dX0_sortByChange_58 : decode cX0_sortByChange 58 = .ok (.iastore, 1) := by decide +kernel
theorem dX0_sortByChange_59 : decode cX0_sortByChange 59 = .ok (.iinc 2 1, 3) := by decide +kernel
theorem dX0_sortByChange_62 : decode cX0_sortByChange 62 = .ok (.goto (-60), 3) := by decide +kernel
theorem dX0_sortByChange_65 : decode cX0_sortByChange 65 = .ok (.return_, 1) := by decide +kernel
set_option maxRecDepth 20000 in
theorem ggX0_fillRequired_X4_rivals : GoodIn wsX0_fillRequired wsX4_rivals := goodIn_r _ [8, 9, 10, 11, 22, 23, 24, 25, 26] (by decide +kernel) (by decide +kernel)
set_option maxRecDepth 20000 in
theorem gX0_fillRequired_X4_rivals : GoodIn wsX0_fillRequired (wsV RX0 79 RX4 yX4_rivals wsX4_rivals) := goodIn_app (goodIn_of _ (by decide +kernel)) ggX0_fillRequired_X4_rivals
theorem dX0_fillRequired_0 : decode cX0_fillRequired 0 = .ok (.aload_n 0, 1) := by decide +kernel
theorem dX0_fillRequired_1 : decode cX0_fillRequired 1 = .ok (.getfield 21, 3) := by decide +kernel
theorem dX0_fillRequired_4 : decode cX0_fillRequired 4 = .ok (.iconst 0, 1) := by decide +kernel
theorem dX0_fillRequired_5 : decode cX0_fillRequired 5 = .ok (.iconst 0, 1) := by decide +kernel
theorem dX0_fillRequired_6 : decode cX0_fillRequired 6 = .ok (.iastore, 1) := by decide +kernel
theorem dX0_fillRequired_7 : decode cX0_fillRequired 7 = .ok (.iconst 0, 1) := by decide +kernel
theorem dX0_fillRequired_8 : decode cX0_fillRequired 8 = .ok (.istore_n 2, 1) := by decide +kernel
theorem dX0_fillRequired_9 : decode cX0_fillRequired 9 = .ok (.iload_n 2, 1) := by decide +kernel
theorem dX0_fillRequired_10 : decode cX0_fillRequired 10 = .ok (.aload_n 0, 1) := by decide +kernel
theorem dX0_fillRequired_11 : decode cX0_fillRequired 11 = .ok (.getfield 33, 3) := by decide +kernel
theorem dX0_fillRequired_14 : decode cX0_fillRequired 14 = .ok (.if_icmp .ge 70, 3) := by decide +kernel
theorem dX0_fillRequired_17 : decode cX0_fillRequired 17 = .ok (.iconst 1, 1) := by decide +kernel
theorem dX0_fillRequired_18 : decode cX0_fillRequired 18 = .ok (.iload_n 2, 1) := by decide +kernel
theorem dX0_fillRequired_19 : decode cX0_fillRequired 19 = .ok (.ishl, 1) := by decide +kernel
theorem dX0_fillRequired_20 : decode cX0_fillRequired 20 = .ok (.istore_n 3, 1) := by decide +kernel
theorem dX0_fillRequired_21 : decode cX0_fillRequired 21 = .ok (.aload_n 1, 1) := by decide +kernel
theorem dX0_fillRequired_22 : decode cX0_fillRequired 22 = .ok (.iload_n 2, 1) := by decide +kernel
theorem dX0_fillRequired_23 : decode cX0_fillRequired 23 = .ok (.invokevirtual 79, 3) := by decide +kernel
theorem dX0_fillRequired_26 : decode cX0_fillRequired 26 = .ok (.istore 4, 2) := by decide +kernel
theorem dX0_fillRequired_28 : decode cX0_fillRequired 28 = .ok (.iconst 0, 1) := by decide +kernel
theorem dX0_fillRequired_29 : decode cX0_fillRequired 29 = .ok (.istore 5, 2) := by decide +kernel
theorem dX0_fillRequired_31 : decode cX0_fillRequired 31 = .ok (.iload 5, 2) := by decide +kernel
theorem dX0_fillRequired_33 : decode cX0_fillRequired 33 = .ok (.iload_n 3, 1) := by decide +kernel
theorem dX0_fillRequired_34 : decode cX0_fillRequired 34 = .ok (.if_icmp .ge 44, 3) := by decide +kernel
theorem dX0_fillRequired_37 : decode cX0_fillRequired 37 = .ok (.aload_n 0, 1) := by decide +kernel
theorem dX0_fillRequired_38 : decode cX0_fillRequired 38 = .ok (.getfield 21, 3) := by decide +kernel
theorem dX0_fillRequired_41 : decode cX0_fillRequired 41 = .ok (.iload_n 3, 1) := by decide +kernel
theorem dX0_fillRequired_42 : decode cX0_fillRequired 42 = .ok (.iload 5, 2) := by decide +kernel
theorem dX0_fillRequired_44 : decode cX0_fillRequired 44 = .ok (.ior, 1) := by decide +kernel
theorem dX0_fillRequired_45 : decode cX0_fillRequired 45 = .ok (.iload 5, 2) := by decide +kernel
theorem dX0_fillRequired_47 : decode cX0_fillRequired 47 = .ok (.iload 4, 2) := by decide +kernel
theorem dX0_fillRequired_49 : decode cX0_fillRequired 49 = .ok (.iand, 1) := by decide +kernel
theorem dX0_fillRequired_50 : decode cX0_fillRequired 50 = .ok (.ifCond .eq 7, 3) := by decide +kernel
theorem dX0_fillRequired_53 : decode cX0_fillRequired 53 = .ok (.iconst (-1), 1) := by decide +kernel
theorem dX0_fillRequired_54 : decode cX0_fillRequired 54 = .ok (.goto 17, 3) := by decide +kernel
theorem dX0_fillRequired_57 : decode cX0_fillRequired 57 = .ok (.aload_n 0, 1) := by decide +kernel
theorem dX0_fillRequired_58 : decode cX0_fillRequired 58 = .ok (.getfield 21, 3) := by decide +kernel
theorem dX0_fillRequired_61 : decode cX0_fillRequired 61 = .ok (.iload 5, 2) := by decide +kernel
theorem dX0_fillRequired_63 : decode cX0_fillRequired 63 = .ok (.iaload, 1) := by decide +kernel
theorem dX0_fillRequired_64 : decode cX0_fillRequired 64 = .ok (.aload_n 1, 1) := by decide +kernel
theorem dX0_fillRequired_65 : decode cX0_fillRequired 65 = .ok (.getfield 82, 3) := by decide +kernel
theorem dX0_fillRequired_68 : decode cX0_fillRequired 68 = .ok (.iload_n 2, 1) := by decide +kernel
theorem dX0_fillRequired_69 : decode cX0_fillRequired 69 = .ok (.iaload, 1) := by decide +kernel
theorem dX0_fillRequired_70 : decode cX0_fillRequired 70 = .ok (.ior, 1) := by decide +kernel
theorem dX0_fillRequired_71 : decode cX0_fillRequired 71 = .ok (.iastore, 1) := by decide +kernel
theorem dX0_fillRequired_72 : decode cX0_fillRequired 72 = .ok (.iinc 5 1, 3) := by decide +kernel
theorem dX0_fillRequired_75 : decode cX0_fillRequired 75 = .ok (.goto (-44), 3) := by decide +kernel
theorem dX0_fillRequired_78 : decode cX0_fillRequired 78 = .ok (.iinc 2 1, 3) := by decide +kernel
theorem dX0_fillRequired_81 : decode cX0_fillRequired 81 = .ok (.goto (-72), 3) := by decide +kernel
theorem dX0_fillRequired_84 : decode cX0_fillRequired 84 = .ok (.return_, 1) := by decide +kernel
theorem dX0_allows_0 : decode cX0_allows 0 = .ok (.aload_n 0, 1) := by decide +kernel
theorem dX0_allows_1 : decode cX0_allows 1 = .ok (.getfield 21, 3) := by decide +kernel
theorem dX0_allows_4 : decode cX0_allows 4 = .ok (.iload_n 1, 1) := by decide +kernel
theorem dX0_allows_5 : decode cX0_allows 5 = .ok (.iaload, 1) := by decide +kernel
theorem dX0_allows_6 : decode cX0_allows 6 = .ok (.iload_n 1, 1) := by decide +kernel
theorem dX0_allows_7 : decode cX0_allows 7 = .ok (.iconst (-1), 1) := by decide +kernel
theorem dX0_allows_8 : decode cX0_allows 8 = .ok (.ixor, 1) := by decide +kernel
theorem dX0_allows_9 : decode cX0_allows 9 = .ok (.iand, 1) := by decide +kernel
theorem dX0_allows_10 : decode cX0_allows 10 = .ok (.ifCond .ne 7, 3) := by decide +kernel
theorem dX0_allows_13 : decode cX0_allows 13 = .ok (.iconst 1, 1) := by decide +kernel
theorem dX0_allows_14 : decode cX0_allows 14 = .ok (.goto 4, 3) := by decide +kernel
theorem dX0_allows_17 : decode cX0_allows 17 = .ok (.iconst 0, 1) := by decide +kernel
theorem dX0_allows_18 : decode cX0_allows 18 = .ok (.ireturn, 1) := by decide +kernel
set_option maxRecDepth 20000 in
theorem ggX0_stands_X0_allows : GoodIn wsX0_stands wsX0_allows := goodIn_r _ [6, 7, 8, 9, 10, 11, 12, 13, 14, 15, 16, 17] (by decide +kernel) (by decide +kernel)
set_option maxRecDepth 20000 in
theorem gX0_stands_X0_allows : GoodIn wsX0_stands (wsV RX0 85 RX0 yX0_allows wsX0_allows) := goodIn_app (goodIn_of _ (by decide +kernel)) ggX0_stands_X0_allows
theorem dX0_stands_0 : decode cX0_stands 0 = .ok (.aload_n 0, 1) := by decide +kernel
theorem dX0_stands_1 : decode cX0_stands 1 = .ok (.getfield 9, 3) := by decide +kernel
theorem dX0_stands_4 : decode cX0_stands 4 = .ok (.iload_n 1, 1) := by decide +kernel
theorem dX0_stands_5 : decode cX0_stands 5 = .ok (.iaload, 1) := by decide +kernel
theorem dX0_stands_6 : decode cX0_stands 6 = .ok (.iload_n 2, 1) := by decide +kernel
theorem dX0_stands_7 : decode cX0_stands 7 = .ok (.if_icmp .gt 15, 3) := by decide +kernel
theorem dX0_stands_10 : decode cX0_stands 10 = .ok (.aload_n 0, 1) := by decide +kernel
theorem dX0_stands_11 : decode cX0_stands 11 = .ok (.iload_n 1, 1) := by decide +kernel
theorem dX0_stands_12 : decode cX0_stands 12 = .ok (.invokevirtual 85, 3) := by decide +kernel
theorem dX0_stands_15 : decode cX0_stands 15 = .ok (.ifCond .eq 7, 3) := by decide +kernel
theorem dX0_stands_18 : decode cX0_stands 18 = .ok (.iconst 1, 1) := by decide +kernel
theorem dX0_stands_19 : decode cX0_stands 19 = .ok (.goto 4, 3) := by decide +kernel
theorem dX0_stands_22 : decode cX0_stands 22 = .ok (.iconst 0, 1) := by decide +kernel
theorem dX0_stands_23 : decode cX0_stands 23 = .ok (.ireturn, 1) := by decide +kernel
theorem dX0_isBefore_0 : decode cX0_isBefore 0 = .ok (.aload_n 0, 1) := by decide +kernel
theorem dX0_isBefore_1 : decode cX0_isBefore 1 = .ok (.getfield 15, 3) := by decide +kernel
theorem dX0_isBefore_4 : decode cX0_isBefore 4 = .ok (.iload_n 1, 1) := by decide +kernel
theorem dX0_isBefore_5 : decode cX0_isBefore 5 = .ok (.iaload, 1) := by decide +kernel
theorem dX0_isBefore_6 : decode cX0_isBefore 6 = .ok (.aload_n 0, 1) := by decide +kernel
theorem dX0_isBefore_7 : decode cX0_isBefore 7 = .ok (.getfield 15, 3) := by decide +kernel
theorem dX0_isBefore_10 : decode cX0_isBefore 10 = .ok (.iload_n 2, 1) := by decide +kernel
theorem dX0_isBefore_11 : decode cX0_isBefore 11 = .ok (.iaload, 1) := by decide +kernel
theorem dX0_isBefore_12 : decode cX0_isBefore 12 = .ok (.if_icmp .eq 24, 3) := by decide +kernel
theorem dX0_isBefore_15 : decode cX0_isBefore 15 = .ok (.aload_n 0, 1) := by decide +kernel
theorem dX0_isBefore_16 : decode cX0_isBefore 16 = .ok (.getfield 15, 3) := by decide +kernel
theorem dX0_isBefore_19 : decode cX0_isBefore 19 = .ok (.iload_n 1, 1) := by decide +kernel
theorem dX0_isBefore_20 : decode cX0_isBefore 20 = .ok (.iaload, 1) := by decide +kernel
theorem dX0_isBefore_21 : decode cX0_isBefore 21 = .ok (.aload_n 0, 1) := by decide +kernel
theorem dX0_isBefore_22 : decode cX0_isBefore 22 = .ok (.getfield 15, 3) := by decide +kernel
theorem dX0_isBefore_25 : decode cX0_isBefore 25 = .ok (.iload_n 2, 1) := by decide +kernel
theorem dX0_isBefore_26 : decode cX0_isBefore 26 = .ok (.iaload, 1) := by decide +kernel
theorem dX0_isBefore_27 : decode cX0_isBefore 27 = .ok (.if_icmp .le 7, 3) := by decide +kernel
theorem dX0_isBefore_30 : decode cX0_isBefore 30 = .ok (.iconst 1, 1) := by decide +kernel
theorem dX0_isBefore_31 : decode cX0_isBefore 31 = .ok (.goto 4, 3) := by decide +kernel
theorem dX0_isBefore_34 : decode cX0_isBefore 34 = .ok (.iconst 0, 1) := by decide +kernel
theorem dX0_isBefore_35 : decode cX0_isBefore 35 = .ok (.ireturn, 1) := by decide +kernel
theorem dX0_isBefore_36 : decode cX0_isBefore 36 = .ok (.aload_n 0, 1) := by decide +kernel
theorem dX0_isBefore_37 : decode cX0_isBefore 37 = .ok (.getfield 9, 3) := by decide +kernel
theorem dX0_isBefore_40 : decode cX0_isBefore 40 = .ok (.iload_n 1, 1) := by decide +kernel
theorem dX0_isBefore_41 : decode cX0_isBefore 41 = .ok (.iaload, 1) := by decide +kernel
theorem dX0_isBefore_42 : decode cX0_isBefore 42 = .ok (.aload_n 0, 1) := by decide +kernel
theorem dX0_isBefore_43 : decode cX0_isBefore 43 = .ok (.getfield 9, 3) := by decide +kernel
theorem dX0_isBefore_46 : decode cX0_isBefore 46 = .ok (.iload_n 2, 1) := by decide +kernel
theorem dX0_isBefore_47 : decode cX0_isBefore 47 = .ok (.iaload, 1) := by decide +kernel
theorem dX0_isBefore_48 : decode cX0_isBefore 48 = .ok (.if_icmp .eq 24, 3) := by decide +kernel
theorem dX0_isBefore_51 : decode cX0_isBefore 51 = .ok (.aload_n 0, 1) := by decide +kernel
theorem dX0_isBefore_52 : decode cX0_isBefore 52 = .ok (.getfield 9, 3) := by decide +kernel
theorem dX0_isBefore_55 : decode cX0_isBefore 55 = .ok (.iload_n 1, 1) := by decide +kernel
theorem dX0_isBefore_56 : decode cX0_isBefore 56 = .ok (.iaload, 1) := by decide +kernel
theorem dX0_isBefore_57 : decode cX0_isBefore 57 = .ok (.aload_n 0, 1) := by decide +kernel
theorem dX0_isBefore_58 : decode cX0_isBefore 58 = .ok (.getfield 9, 3) := by decide +kernel
theorem dX0_isBefore_61 : decode cX0_isBefore 61 = .ok (.iload_n 2, 1) := by decide +kernel
theorem dX0_isBefore_62 : decode cX0_isBefore 62 = .ok (.iaload, 1) := by decide +kernel
theorem dX0_isBefore_63 : decode cX0_isBefore 63 = .ok (.if_icmp .ge 7, 3) := by decide +kernel
theorem dX0_isBefore_66 : decode cX0_isBefore 66 = .ok (.iconst 1, 1) := by decide +kernel
theorem dX0_isBefore_67 : decode cX0_isBefore 67 = .ok (.goto 4, 3) := by decide +kernel
theorem dX0_isBefore_70 : decode cX0_isBefore 70 = .ok (.iconst 0, 1) := by decide +kernel
theorem dX0_isBefore_71 : decode cX0_isBefore 71 = .ok (.ireturn, 1) := by decide +kernel
theorem dX0_isBefore_72 : decode cX0_isBefore 72 = .ok (.iload_n 1, 1) := by decide +kernel
theorem dX0_isBefore_73 : decode cX0_isBefore 73 = .ok (.iload_n 2, 1) := by decide +kernel
theorem dX0_isBefore_74 : decode cX0_isBefore 74 = .ok (.if_icmp .ge 7, 3) := by decide +kernel
theorem dX0_isBefore_77 : decode cX0_isBefore 77 = .ok (.iconst 1, 1) := by decide +kernel
theorem dX0_isBefore_78 : decode cX0_isBefore 78 = .ok (.goto 4, 3) := by decide +kernel
theorem dX0_isBefore_81 : decode cX0_isBefore 81 = .ok (.iconst 0, 1) := by decide +kernel
theorem dX0_isBefore_82 : decode cX0_isBefore 82 = .ok (.ireturn, 1) := by decide +kernel
set_option maxRecDepth 20000 in
theorem ggX0_first_X0_stands : GoodIn wsX0_first wsX0_stands := goodIn_r _ [6, 7, 8, 9, 10, 5, 11, 12, 18, 19, 20, 21, 22, 23, 24, 25, 26, 27] (by decide +kernel) (by decide +kernel)
set_option maxRecDepth 20000 in
theorem gX0_first_X0_stands : GoodIn wsX0_first (wsV RX0 89 RX0 yX0_stands wsX0_stands) := goodIn_app (goodIn_of _ (by decide +kernel)) ggX0_first_X0_stands
set_option maxRecDepth 20000 in
theorem ggX0_first_X0_isBefore : GoodIn wsX0_first wsX0_isBefore := goodIn_r _ [16, 17, 7, 18, 19, 20, 21, 22, 23, 24, 25, 26, 27] (by decide +kernel) (by decide +kernel)
set_option maxRecDepth 20000 in
theorem gX0_first_X0_isBefore : GoodIn wsX0_first (wsV RX0 93 RX0 yX0_isBefore wsX0_isBefore) := goodIn_app (goodIn_of _ (by decide +kernel)) ggX0_first_X0_isBefore
theorem dX0_first_0 : decode cX0_first 0 = .ok (.bipush (-6), 2) := by decide +kernel
theorem dX0_first_2 : decode cX0_first 2 = .ok (.istore 4, 2) := by decide +kernel
theorem dX0_first_4 : decode cX0_first 4 = .ok (.iconst 0, 1) := by decide +kernel
theorem dX0_first_5 : decode cX0_first 5 = .ok (.istore 5, 2) := by decide +kernel
theorem dX0_first_7 : decode cX0_first 7 = .ok (.iload 5, 2) := by decide +kernel
theorem dX0_first_9 : decode cX0_first 9 = .ok (.aload_n 0, 1) := by decide +kernel
theorem dX0_first_10 : decode cX0_first 10 = .ok (.getfield 37, 3) := by decide +kernel
theorem dX0_first_13 : decode cX0_first 13 = .ok (.if_icmp .ge 66, 3) := by decide +kernel
theorem dX0_first_16 : decode cX0_first 16 = .ok (.iload 5, 2) := by decide +kernel
theorem dX0_first_18 : decode cX0_first 18 = .ok (.iload_n 2, 1) := by decide +kernel
theorem dX0_first_19 : decode cX0_first 19 = .ok (.iand, 1) := by decide +kernel
theorem dX0_first_20 : decode cX0_first 20 = .ok (.iload_n 2, 1) := by decide +kernel
theorem dX0_first_21 : decode cX0_first 21 = .ok (.if_icmp .ne 14, 3) := by decide +kernel
theorem dX0_first_24 : decode cX0_first 24 = .ok (.iload 5, 2) := by decide +kernel
theorem dX0_first_26 : decode cX0_first 26 = .ok (.iload_n 3, 1) := by decide +kernel
theorem dX0_first_27 : decode cX0_first 27 = .ok (.iand, 1) := by decide +kernel
theorem dX0_first_28 : decode cX0_first 28 = .ok (.ifCond .ne 7, 3) := by decide +kernel
theorem dX0_first_31 : decode cX0_first 31 = .ok (.iconst 1, 1) := by decide +kernel
theorem dX0_first_32 : decode cX0_first 32 = .ok (.goto 4, 3) := by decide +kernel
theorem dX0_first_35 : decode cX0_first 35 = .ok (.iconst 0, 1) := by decide +kernel
theorem dX0_first_36 : decode cX0_first 36 = .ok (.istore 6, 2) := by decide +kernel
theorem dX0_first_38 : decode cX0_first 38 = .ok (.iload 6, 2) := by decide +kernel
theorem dX0_first_40 : decode cX0_first 40 = .ok (.ifCond .eq 33, 3) := by decide +kernel
theorem dX0_first_43 : decode cX0_first 43 = .ok (.aload_n 0, 1) := by decide +kernel
theorem dX0_first_44 : decode cX0_first 44 = .ok (.iload 5, 2) := by decide +kernel
theorem dX0_first_46 : decode cX0_first 46 = .ok (.iload_n 1, 1) := by decide +kernel
theorem dX0_first_47 : decode cX0_first 47 = .ok (.invokevirtual 89, 3) := by decide +kernel
theorem dX0_first_50 : decode cX0_first 50 = .ok (.ifCond .eq 23, 3) := by decide +kernel
theorem dX0_first_53 : decode cX0_first 53 = .ok (.iload 4, 2) := by decide +kernel
theorem dX0_first_55 : decode cX0_first 55 = .ok (.ifCond .lt 14, 3) := by decide +kernel
theorem dX0_first_58 : decode cX0_first 58 = .ok (.aload_n 0, 1) := by decide +kernel
theorem dX0_first_59 : decode cX0_first 59 = .ok (.iload 5, 2) := by decide +kernel
theorem dX0_first_61 : decode cX0_first 61 = .ok (.iload 4, 2) := by decide +kernel
theorem dX0_first_63 : decode cX0_first 63 = .ok (.invokevirtual 93, 3) := by decide +kernel
theorem dX0_first_66 : decode cX0_first 66 = .ok (.ifCond .eq 7, 3) := by decide +kernel
theorem dX0_first_69 : decode cX0_first 69 = .ok (.iload 5, 2) := by decide +kernel
theorem dX0_first_71 : decode cX0_first 71 = .ok (.istore 4, 2) := by decide +kernel
theorem dX0_first_73 : decode cX0_first 73 = .ok (.iinc 5 1, 3) := by decide +kernel
theorem dX0_first_76 : decode cX0_first 76 = .ok (.goto (-69), 3) := by decide +kernel
theorem dX0_first_79 : decode cX0_first 79 = .ok (.iload 4, 2) := by decide +kernel
theorem dX0_first_81 : decode cX0_first 81 = .ok (.ireturn, 1) := by decide +kernel
set_option maxRecDepth 20000 in
theorem ggX0_firstOfAll_X0_first : GoodIn wsX0_firstOfAll wsX0_first := goodIn_r _ [9, 10, 11, 12, 13, 8, 14, 15, 16, 17, 18, 19, 20, 21, 22, 23, 24, 25, 26, 27, 28, 29, 30, 31, 32, 33, 34, 35] (by decide +kernel) (by decide +kernel)
set_option maxRecDepth 20000 in
theorem gX0_firstOfAll_X0_first : GoodIn wsX0_firstOfAll (wsV RX0 96 RX0 yX0_first wsX0_first) := goodIn_app (goodIn_of _ (by decide +kernel)) ggX0_firstOfAll_X0_first
theorem dX0_firstOfAll_0 : decode cX0_firstOfAll 0 = .ok (.aload_n 0, 1) := by decide +kernel
theorem dX0_firstOfAll_1 : decode cX0_firstOfAll 1 = .ok (.iload_n 1, 1) := by decide +kernel
theorem dX0_firstOfAll_2 : decode cX0_firstOfAll 2 = .ok (.iconst 0, 1) := by decide +kernel
theorem dX0_firstOfAll_3 : decode cX0_firstOfAll 3 = .ok (.iconst 0, 1) := by decide +kernel
theorem dX0_firstOfAll_4 : decode cX0_firstOfAll 4 = .ok (.invokevirtual 96, 3) := by decide +kernel
theorem dX0_firstOfAll_7 : decode cX0_firstOfAll 7 = .ok (.iconst 0, 1) := by decide +kernel
theorem dX0_firstOfAll_8 : decode cX0_firstOfAll 8 = .ok (.invokestatic 100, 3) := by decide +kernel
theorem dX0_firstOfAll_11 : decode cX0_firstOfAll 11 = .ok (.ireturn, 1) := by decide +kernel
set_option maxRecDepth 20000 in
theorem ggX0_firstNear_X0_stands : GoodIn wsX0_firstNear wsX0_stands := goodIn_r _ [6, 7, 8, 9, 10, 5, 11, 12, 18, 19, 20, 21, 22, 23, 24, 25, 26, 27] (by decide +kernel) (by decide +kernel)
set_option maxRecDepth 20000 in
theorem gX0_firstNear_X0_stands : GoodIn wsX0_firstNear (wsV RX0 89 RX0 yX0_stands wsX0_stands) := goodIn_app (goodIn_of _ (by decide +kernel)) ggX0_firstNear_X0_stands
set_option maxRecDepth 20000 in
theorem ggX0_firstNear_X0_isBefore : GoodIn wsX0_firstNear wsX0_isBefore := goodIn_r _ [16, 17, 7, 18, 19, 20, 21, 22, 23, 24, 25, 26, 27] (by decide +kernel) (by decide +kernel)
set_option maxRecDepth 20000 in
theorem gX0_firstNear_X0_isBefore : GoodIn wsX0_firstNear (wsV RX0 93 RX0 yX0_isBefore wsX0_isBefore) := goodIn_app (goodIn_of _ (by decide +kernel)) ggX0_firstNear_X0_isBefore
theorem dX0_firstNear_0 : decode cX0_firstNear 0 = .ok (.iload_n 1, 1) := by decide +kernel
theorem dX0_firstNear_1 : decode cX0_firstNear 1 = .ok (.istore_n 3, 1) := by decide +kernel
theorem dX0_firstNear_2 : decode cX0_firstNear 2 = .ok (.iconst 0, 1) := by decide +kernel
theorem dX0_firstNear_3 : decode cX0_firstNear 3 = .ok (.istore 4, 2) := by decide +kernel
theorem dX0_firstNear_5 : decode cX0_firstNear 5 = .ok (.iload 4, 2) := by decide +kernel
theorem dX0_firstNear_7 : decode cX0_firstNear 7 = .ok (.aload_n 0, 1) := by decide +kernel
theorem dX0_firstNear_8 : decode cX0_firstNear 8 = .ok (.getfield 33, 3) := by decide +kernel
theorem dX0_firstNear_11 : decode cX0_firstNear 11 = .ok (.if_icmp .ge 98, 3) := by decide +kernel
theorem dX0_firstNear_14 : decode cX0_firstNear 14 = .ok (.iload 4, 2) := by decide +kernel
theorem dX0_firstNear_16 : decode cX0_firstNear 16 = .ok (.istore 5, 2) := by decide +kernel
theorem dX0_firstNear_18 : decode cX0_firstNear 18 = .ok (.iload 5, 2) := by decide +kernel
theorem dX0_firstNear_20 : decode cX0_firstNear 20 = .ok (.aload_n 0, 1) := by decide +kernel
theorem dX0_firstNear_21 : decode cX0_firstNear 21 = .ok (.getfield 33, 3) := by decide +kernel
theorem dX0_firstNear_24 : decode cX0_firstNear 24 = .ok (.if_icmp .ge 79, 3) := by decide +kernel
theorem dX0_firstNear_27 : decode cX0_firstNear 27 = .ok (.iload_n 1, 1) := by decide +kernel
theorem dX0_firstNear_28 : decode cX0_firstNear 28 = .ok (.iload 4, 2) := by decide +kernel
theorem dX0_firstNear_30 : decode cX0_firstNear 30 = .ok (.ishr, 1) := by decide +kernel
theorem dX0_firstNear_31 : decode cX0_firstNear 31 = .ok (.iload_n 1, 1) := by decide +kernel
theorem dX0_firstNear_32 : decode cX0_firstNear 32 = .ok (.iload 5, 2) := by decide +kernel
theorem dX0_firstNear_34 : decode cX0_firstNear 34 = .ok (.ishr, 1) := by decide +kernel
theorem dX0_firstNear_35 : decode cX0_firstNear 35 = .ok (.ixor, 1) := by decide +kernel
theorem dX0_firstNear_36 : decode cX0_firstNear 36 = .ok (.iconst 1, 1) := by decide +kernel
theorem dX0_firstNear_37 : decode cX0_firstNear 37 = .ok (.iand, 1) := by decide +kernel
theorem dX0_firstNear_38 : decode cX0_firstNear 38 = .ok (.iconst 1, 1) := by decide +kernel
theorem dX0_firstNear_39 : decode cX0_firstNear 39 = .ok (.if_icmp .ne 7, 3) := by decide +kernel
theorem dX0_firstNear_42 : decode cX0_firstNear 42 = .ok (.iconst 1, 1) := by decide +kernel
theorem dX0_firstNear_43 : decode cX0_firstNear 43 = .ok (.goto 4, 3) := by decide +kernel
theorem dX0_firstNear_46 : decode cX0_firstNear 46 = .ok (.iconst 0, 1) := by decide +kernel
theorem dX0_firstNear_47 : decode cX0_firstNear 47 = .ok (.istore 6, 2) := by decide +kernel
theorem dX0_firstNear_49 : decode cX0_firstNear 49 = .ok (.iload_n 1, 1) := by decide +kernel
theorem dX0_firstNear_50 : decode cX0_firstNear 50 = .ok (.iconst 1, 1) := by decide +kernel
theorem dX0_firstNear_51 : decode cX0_firstNear 51 = .ok (.iload 4, 2) := by decide +kernel
theorem dX0_firstNear_53 : decode cX0_firstNear 53 = .ok (.ishl, 1) := by decide +kernel
theorem dX0_firstNear_54 : decode cX0_firstNear 54 = .ok (.iconst 1, 1) := by decide +kernel
theorem dX0_firstNear_55 : decode cX0_firstNear 55 = .ok (.iload 5, 2) := by decide +kernel
theorem dX0_firstNear_57 : decode cX0_firstNear 57 = .ok (.ishl, 1) := by decide +kernel
theorem dX0_firstNear_58 : decode cX0_firstNear 58 = .ok (.ior, 1) := by decide +kernel
theorem dX0_firstNear_59 : decode cX0_firstNear 59 = .ok (.ixor, 1) := by decide +kernel
theorem dX0_firstNear_60 : decode cX0_firstNear 60 = .ok (.istore 7, 2) := by decide +kernel
theorem dX0_firstNear_62 : decode cX0_firstNear 62 = .ok (.iload 4, 2) := by decide +kernel
theorem dX0_firstNear_64 : decode cX0_firstNear 64 = .ok (.iload 5, 2) := by decide +kernel
theorem dX0_firstNear_66 : decode cX0_firstNear 66 = .ok (.if_icmp .eq 8, 3) := by decide +kernel
theorem dX0_firstNear_69 : decode cX0_firstNear 69 = .ok (.iload 6, 2) := by decide +kernel
theorem dX0_firstNear_71 : decode cX0_firstNear 71 = .ok (.ifCond .eq 26, 3) := by decide +kernel
theorem dX0_firstNear_74 : decode cX0_firstNear 74 = .ok (.aload_n 0, 1) := by decide +kernel
theorem dX0_firstNear_75 : decode cX0_firstNear 75 = .ok (.iload 7, 2) := by decide +kernel
theorem dX0_firstNear_77 : decode cX0_firstNear 77 = .ok (.iload_n 2, 1) := by decide +kernel
theorem dX0_firstNear_78 : decode cX0_firstNear 78 = .ok (.invokevirtual 89, 3) := by decide +kernel
theorem dX0_firstNear_81 : decode cX0_firstNear 81 = .ok (.ifCond .eq 16, 3) := by decide +kernel
theorem dX0_firstNear_84 : decode cX0_firstNear 84 = .ok (.aload_n 0, 1) := by decide +kernel
theorem dX0_firstNear_85 : decode cX0_firstNear 85 = .ok (.iload 7, 2) := by decide +kernel
theorem dX0_firstNear_87 : decode cX0_firstNear 87 = .ok (.iload_n 3, 1) := by decide +kernel
theorem dX0_firstNear_88 : decode cX0_firstNear 88 = .ok (.invokevirtual 93, 3) := by decide +kernel
theorem dX0_firstNear_91 : decode cX0_firstNear 91 = .ok (.ifCond .eq 6, 3) := by decide +kernel
theorem dX0_firstNear_94 : decode cX0_firstNear 94 = .ok (.iload 7, 2) := by decide +kernel
theorem dX0_firstNear_96 : decode cX0_firstNear 96 = .ok (.istore_n 3, 1) := by decide +kernel
theorem dX0_firstNear_97 : decode cX0_firstNear 97 = .ok (.iinc 5 1, 3) := by decide +kernel
theorem dX0_firstNear_100 : decode cX0_firstNear 100 = .ok (.goto (-82), 3) := by decide +kernel
theorem dX0_firstNear_103 : decode cX0_firstNear 103 = .ok (.iinc 4 1, 3) := by decide +kernel
theorem dX0_firstNear_106 : decode cX0_firstNear 106 = .ok (.goto (-101), 3) := by decide +kernel
theorem dX0_firstNear_109 : decode cX0_firstNear 109 = .ok (.iload_n 3, 1) := by decide +kernel
theorem dX0_firstNear_110 : decode cX0_firstNear 110 = .ok (.ireturn, 1) := by decide +kernel
set_option maxRecDepth 20000 in
theorem ggX0_fitting_X0_stands : GoodIn wsX0_fitting wsX0_stands := goodIn_r _ [6, 7, 8, 9, 10, 5, 11, 12, 13, 14, 15, 16, 17, 18, 19, 20, 21, 22] (by decide +kernel) (by decide +kernel)
set_option maxRecDepth 20000 in
theorem gX0_fitting_X0_stands : GoodIn wsX0_fitting (wsV RX0 89 RX0 yX0_stands wsX0_stands) := goodIn_app (goodIn_of _ (by decide +kernel)) ggX0_fitting_X0_stands
theorem dX0_fitting_0 : decode cX0_fitting 0 = .ok (.iconst 0, 1) := by decide +kernel
theorem dX0_fitting_1 : decode cX0_fitting 1 = .ok (.istore_n 2, 1) := by decide +kernel
theorem dX0_fitting_2 : decode cX0_fitting 2 = .ok (.iconst 0, 1) := by decide +kernel
theorem dX0_fitting_3 : decode cX0_fitting 3 = .ok (.istore_n 3, 1) := by decide +kernel
theorem dX0_fitting_4 : decode cX0_fitting 4 = .ok (.iload_n 3, 1) := by decide +kernel
theorem dX0_fitting_5 : decode cX0_fitting 5 = .ok (.aload_n 0, 1) := by decide +kernel
theorem dX0_fitting_6 : decode cX0_fitting 6 = .ok (.getfield 37, 3) := by decide +kernel
theorem dX0_fitting_9 : decode cX0_fitting 9 = .ok (.if_icmp .ge 21, 3) := by decide +kernel
theorem dX0_fitting_12 : decode cX0_fitting 12 = .ok (.aload_n 0, 1) := by decide +kernel
theorem dX0_fitting_13 : decode cX0_fitting 13 = .ok (.iload_n 3, 1) := by decide +kernel
theorem dX0_fitting_14 : decode cX0_fitting 14 = .ok (.iload_n 1, 1) := by decide +kernel
theorem dX0_fitting_15 : decode cX0_fitting 15 = .ok (.invokevirtual 89, 3) := by decide +kernel
theorem dX0_fitting_18 : decode cX0_fitting 18 = .ok (.ifCond .eq 6, 3) := by decide +kernel
theorem dX0_fitting_21 : decode cX0_fitting 21 = .ok (.iinc 2 1, 3) := by decide +kernel
theorem dX0_fitting_24 : decode cX0_fitting 24 = .ok (.iinc 3 1, 3) := by decide +kernel
theorem dX0_fitting_27 : decode cX0_fitting 27 = .ok (.goto (-23), 3) := by decide +kernel
theorem dX0_fitting_30 : decode cX0_fitting 30 = .ok (.iload_n 2, 1) := by decide +kernel
theorem dX0_fitting_31 : decode cX0_fitting 31 = .ok (.ireturn, 1) := by decide +kernel
theorem dX0_shiftedProfit_0 : decode cX0_shiftedProfit 0 = .ok (.iload_n 1, 1) := by decide +kernel
theorem dX0_shiftedProfit_1 : decode cX0_shiftedProfit 1 = .ok (.ifCond .ge 8, 3) := by decide +kernel
theorem dX0_shiftedProfit_4 : decode cX0_shiftedProfit 4 = .ok (.bipush (-6), 2) := by decide +kernel
theorem dX0_shiftedProfit_6 : decode cX0_shiftedProfit 6 = .ok (.goto 12, 3) := by decide +kernel
theorem dX0_shiftedProfit_9 : decode cX0_shiftedProfit 9 = .ok (.aload_n 0, 1) := by decide +kernel
theorem dX0_shiftedProfit_10 : decode cX0_shiftedProfit 10 = .ok (.getfield 15, 3) := by decide +kernel
theorem dX0_shiftedProfit_13 : decode cX0_shiftedProfit 13 = .ok (.iload_n 1, 1) := by decide +kernel
theorem dX0_shiftedProfit_14 : decode cX0_shiftedProfit 14 = .ok (.iaload, 1) := by decide +kernel
theorem dX0_shiftedProfit_15 : decode cX0_shiftedProfit 15 = .ok (.ldc 106, 2) := by decide +kernel
theorem dX0_shiftedProfit_17 : decode cX0_shiftedProfit 17 = .ok (.iadd, 1) := by decide +kernel
theorem dX0_shiftedProfit_18 : decode cX0_shiftedProfit 18 = .ok (.ireturn, 1) := by decide +kernel
theorem dX1_init_0 : decode cX1_init 0 = .ok (.aload_n 0, 1) := by decide +kernel
theorem dX1_init_1 : decode cX1_init 1 = .ok (.invokespecial 3, 3) := by decide +kernel
theorem dX1_init_4 : decode cX1_init 4 = .ok (.aload_n 0, 1) := by decide +kernel
theorem dX1_init_5 : decode cX1_init 5 = .ok (.bipush 80, 2) := by decide +kernel
theorem dX1_init_7 : decode cX1_init 7 = .ok (.newarray .int, 2) := by decide +kernel
theorem dX1_init_9 : decode cX1_init 9 = .ok (.putfield 9, 3) := by decide +kernel
theorem dX1_init_12 : decode cX1_init 12 = .ok (.aload_n 0, 1) := by decide +kernel
theorem dX1_init_13 : decode cX1_init 13 = .ok (.iconst 0, 1) := by decide +kernel
theorem dX1_init_14 : decode cX1_init 14 = .ok (.putfield 15, 3) := by decide +kernel
theorem dX1_init_17 : decode cX1_init 17 = .ok (.aload_n 0, 1) := by decide +kernel
theorem dX1_init_18 : decode cX1_init 18 = .ok (.iconst 5, 1) := by decide +kernel
theorem dX1_init_19 : decode cX1_init 19 = .ok (.bipush 20, 2) := by decide +kernel
theorem dX1_init_21 : decode cX1_init 21 = .ok (.multianewarray 19 2, 4) := by decide +kernel
theorem dX1_init_25 : decode cX1_init 25 = .ok (.putfield 21, 3) := by decide +kernel
theorem dX1_init_28 : decode cX1_init 28 = .ok (.aload_n 0, 1) := by decide +kernel
theorem dX1_init_29 : decode cX1_init 29 = .ok (.iconst 0, 1) := by decide +kernel
theorem dX1_init_30 : decode cX1_init 30 = .ok (.putfield 24, 3) := by decide +kernel
theorem dX1_init_33 : decode cX1_init 33 = .ok (.aload_n 0, 1) := by decide +kernel
theorem dX1_init_34 : decode cX1_init 34 = .ok (.iconst 0, 1) := by decide +kernel
theorem dX1_init_35 : decode cX1_init 35 = .ok (.putfield 27, 3) := by decide +kernel
theorem dX1_init_38 : decode cX1_init 38 = .ok (.return_, 1) := by decide +kernel
theorem dX1_lengthOf_0 : decode cX1_lengthOf 0 = .ok (.lload_n 0, 1) := by decide +kernel
theorem dX1_lengthOf_1 : decode cX1_lengthOf 1 = .ok (.lstore_n 2, 1) := by decide +kernel
theorem dX1_lengthOf_2 : decode cX1_lengthOf 2 = .ok (.iconst 0, 1) := by decide +kernel
theorem dX1_lengthOf_3 : decode cX1_lengthOf 3 = .ok (.istore 4, 2) := by decide +kernel
theorem dX1_lengthOf_5 : decode cX1_lengthOf 5 = .ok (.iconst 0, 1) := by decide +kernel
theorem dX1_lengthOf_6 : decode cX1_lengthOf 6 = .ok (.istore 5, 2) := by decide +kernel
theorem dX1_lengthOf_8 : decode cX1_lengthOf 8 = .ok (.iload 5, 2) := by decide +kernel
theorem dX1_lengthOf_10 : decode cX1_lengthOf 10 = .ok (.bipush 8, 2) := by decide +kernel
theorem dX1_lengthOf_12 : decode cX1_lengthOf 12 = .ok (.if_icmp .ge 51, 3) := by decide +kernel
theorem dX1_lengthOf_15 : decode cX1_lengthOf 15 = .ok (.lload_n 2, 1) := by decide +kernel
theorem dX1_lengthOf_16 : decode cX1_lengthOf 16 = .ok (.ldc2_w 30, 3) := by decide +kernel
theorem dX1_lengthOf_19 : decode cX1_lengthOf 19 = .ok (.land, 1) := by decide +kernel
theorem dX1_lengthOf_20 : decode cX1_lengthOf 20 = .ok (.lconst 0, 1) := by decide +kernel
theorem dX1_lengthOf_21 : decode cX1_lengthOf 21 = .ok (.lcmp, 1) := by decide +kernel
theorem dX1_lengthOf_22 : decode cX1_lengthOf 22 = .ok (.ifCond .eq 41, 3) := by decide +kernel
theorem dX1_lengthOf_25 : decode cX1_lengthOf 25 = .ok (.lload_n 2, 1) := by decide +kernel
theorem dX1_lengthOf_26 : decode cX1_lengthOf 26 = .ok (.ldc2_w 30, 3) := by decide +kernel
theorem dX1_lengthOf_29 : decode cX1_lengthOf 29 = .ok (.land, 1) := by decide +kernel
theorem dX1_lengthOf_30 : decode cX1_lengthOf 30 = .ok (.l2i, 1) := by decide +kernel
theorem dX1_lengthOf_31 : decode cX1_lengthOf 31 = .ok (.istore 6, 2) := by decide +kernel
theorem dX1_lengthOf_33 : decode cX1_lengthOf 33 = .ok (.iload 6, 2) := by decide +kernel
theorem dX1_lengthOf_35 : decode cX1_lengthOf 35 = .ok (.bipush 33, 2) := by decide +kernel
theorem dX1_lengthOf_37 : decode cX1_lengthOf 37 = .ok (.if_icmp .lt 10, 3) := by decide +kernel
theorem dX1_lengthOf_40 : decode cX1_lengthOf 40 = .ok (.iload 6, 2) := by decide +kernel
theorem dX1_lengthOf_42 : decode cX1_lengthOf 42 = .ok (.bipush 126, 2) := by decide +kernel
theorem dX1_lengthOf_44 : decode cX1_lengthOf 44 = .ok (.if_icmp .le 5, 3) := by decide +kernel
theorem dX1_lengthOf_47 : decode cX1_lengthOf 47 = .ok (.iconst 0, 1) := by decide +kernel
theorem dX1_lengthOf_48 : decode cX1_lengthOf 48 = .ok (.ireturn, 1) := by decide +kernel
theorem dX1_lengthOf_49 : decode cX1_lengthOf 49 = .ok (.iinc 4 1, 3) := by decide +kernel
theorem dX1_lengthOf_52 : decode cX1_lengthOf 52 = .ok (.lload_n 2, 1) := by decide +kernel
theorem dX1_lengthOf_53 : decode cX1_lengthOf 53 = .ok (.bipush 8, 2) := by decide +kernel
theorem dX1_lengthOf_55 : decode cX1_lengthOf 55 = .ok (.lushr, 1) := by decide +kernel
theorem dX1_lengthOf_56 : decode cX1_lengthOf 56 = .ok (.lstore_n 2, 1) := by decide +kernel
theorem dX1_lengthOf_57 : decode cX1_lengthOf 57 = .ok (.iinc 5 1, 3) := by decide +kernel
theorem dX1_lengthOf_60 : decode cX1_lengthOf 60 = .ok (.goto (-52), 3) := by decide +kernel
theorem dX1_lengthOf_63 : decode cX1_lengthOf 63 = .ok (.lload_n 2, 1) := by decide +kernel
theorem dX1_lengthOf_64 : decode cX1_lengthOf 64 = .ok (.lconst 0, 1) := by decide +kernel
theorem dX1_lengthOf_65 : decode cX1_lengthOf 65 = .ok (.lcmp, 1) := by decide +kernel
theorem dX1_lengthOf_66 : decode cX1_lengthOf 66 = .ok (.ifCond .ne 8, 3) := by decide +kernel
theorem dX1_lengthOf_69 : decode cX1_lengthOf 69 = .ok (.iload 4, 2) := by decide +kernel
theorem dX1_lengthOf_71 : decode cX1_lengthOf 71 = .ok (.goto 4, 3) := by decide +kernel
theorem dX1_lengthOf_74 : decode cX1_lengthOf 74 = .ok (.iconst 0, 1) := by decide +kernel
theorem dX1_lengthOf_75 : decode cX1_lengthOf 75 = .ok (.ireturn, 1) := by decide +kernel
theorem dX1_append_0 : decode cX1_append 0 = .ok (.iload_n 3, 1) := by decide +kernel
theorem dX1_append_1 : decode cX1_append 1 = .ok (.iconst 1, 1) := by decide +kernel
theorem dX1_append_2 : decode cX1_append 2 = .ok (.isub, 1) := by decide +kernel
theorem dX1_append_3 : decode cX1_append 3 = .ok (.istore 4, 2) := by decide +kernel
theorem dX1_append_5 : decode cX1_append 5 = .ok (.iload 4, 2) := by decide +kernel
theorem dX1_append_7 : decode cX1_append 7 = .ok (.ifCond .lt 49, 3) := by decide +kernel
theorem dX1_append_10 : decode cX1_append 10 = .ok (.aload_n 0, 1) := by decide +kernel
theorem dX1_append_11 : decode cX1_append 11 = .ok (.getfield 15, 3) := by decide +kernel
theorem dX1_append_14 : decode cX1_append 14 = .ok (.bipush 80, 2) := by decide +kernel
theorem dX1_append_16 : decode cX1_append 16 = .ok (.if_icmp .ge 40, 3) := by decide +kernel
theorem dX1_append_19 : decode cX1_append 19 = .ok (.aload_n 0, 1) := by decide +kernel
theorem dX1_append_20 : decode cX1_append 20 = .ok (.getfield 9, 3) := by decide +kernel
theorem dX1_append_23 : decode cX1_append 23 = .ok (.aload_n 0, 1) := by decide +kernel
theorem dX1_append_24 : decode cX1_append 24 = .ok (.getfield 15, 3) := by decide +kernel
theorem dX1_append_27 : decode cX1_append 27 = .ok (.lload_n 1, 1) := by decide +kernel
theorem dX1_append_28 : decode cX1_append 28 = .ok (.bipush 8, 2) := by decide +kernel
theorem dX1_append_30 : decode cX1_append 30 = .ok (.iload 4, 2) := by decide +kernel
theorem dX1_append_32 : decode cX1_append 32 = .ok (.imul, 1) := by decide +kernel
theorem dX1_append_33 : decode cX1_append 33 = .ok (.lushr, 1) := by decide +kernel
theorem dX1_append_34 : decode cX1_append 34 = .ok (.ldc2_w 30, 3) := by decide +kernel
theorem dX1_append_37 : decode cX1_append 37 = .ok (.land, 1) := by decide +kernel
theorem dX1_append_38 : decode cX1_append 38 = .ok (.l2i, 1) := by decide +kernel
theorem dX1_append_39 : decode cX1_append 39 = .ok (.iastore, 1) := by decide +kernel
theorem dX1_append_40 : decode cX1_append 40 = .ok (.aload_n 0, 1) := by decide +kernel
theorem dX1_append_41 : decode cX1_append 41 = .ok (.dup, 1) := by decide +kernel
theorem dX1_append_42 : decode cX1_append 42 = .ok (.getfield 15, 3) := by decide +kernel
theorem dX1_append_45 : decode cX1_append 45 = .ok (.iconst 1, 1) := by decide +kernel
theorem dX1_append_46 : decode cX1_append 46 = .ok (.iadd, 1) := by decide +kernel
theorem dX1_append_47 : decode cX1_append 47 = .ok (.putfield 15, 3) := by decide +kernel
theorem dX1_append_50 : decode cX1_append 50 = .ok (.iinc 4 (-1), 3) := by decide +kernel
theorem dX1_append_53 : decode cX1_append 53 = .ok (.goto (-48), 3) := by decide +kernel
theorem dX1_append_56 : decode cX1_append 56 = .ok (.return_, 1) := by decide +kernel
set_option maxRecDepth 20000 in
theorem ggX1_read_X1_readItem : GoodIn wsX1_read wsX1_readItem := goodIn_r _ [8, 9, 10, 11, 7, 12, 1, 13, 2, 14, 15, 16, 17, 3, 18, 19, 20, 21, 22, 23, 24, 25, 26, 27, 28, 29, 30, 31, 32, 33, 34, 35] (by decide +kernel) (by decide +kernel)
set_option maxRecDepth 20000 in
theorem gX1_read_X1_readItem : GoodIn wsX1_read (wsV RX1 32 RX1 yX1_readItem wsX1_readItem) := goodIn_app (goodIn_of _ (by decide +kernel)) ggX1_read_X1_readItem
set_option maxRecDepth 20000 in
theorem ggX1_read_X1_accept : GoodIn wsX1_read wsX1_accept := goodIn_r _ [22, 1, 3, 18, 31, 32, 33, 34, 35] (by decide +kernel) (by decide +kernel)
set_option maxRecDepth 20000 in
theorem gX1_read_X1_accept : GoodIn wsX1_read (wsV RX1 36 RX1 yX1_accept wsX1_accept) := goodIn_app (goodIn_of _ (by decide +kernel)) ggX1_read_X1_accept
theorem dX1_read_0 : decode cX1_read 0 = .ok (.aload_n 0, 1) := by decide +kernel
theorem dX1_read_1 : decode cX1_read 1 = .ok (.iconst 0, 1) := by decide +kernel
theorem dX1_read_2 : decode cX1_read 2 = .ok (.putfield 27, 3) := by decide +kernel
theorem dX1_read_5 : decode cX1_read 5 = .ok (.aload_n 0, 1) := by decide +kernel
theorem dX1_read_6 : decode cX1_read 6 = .ok (.iconst 0, 1) := by decide +kernel
theorem dX1_read_7 : decode cX1_read 7 = .ok (.putfield 24, 3) := by decide +kernel
theorem dX1_read_10 : decode cX1_read 10 = .ok (.iconst 0, 1) := by decide +kernel
theorem dX1_read_11 : decode cX1_read 11 = .ok (.istore_n 1, 1) := by decide +kernel
theorem dX1_read_12 : decode cX1_read 12 = .ok (.iload_n 1, 1) := by decide +kernel
theorem dX1_read_13 : decode cX1_read 13 = .ok (.bipush 20, 2) := by decide +kernel
theorem dX1_read_15 : decode cX1_read 15 = .ok (.if_icmp .ge 52, 3) := by decide +kernel
theorem dX1_read_18 : decode cX1_read 18 = .ok (.aload_n 0, 1) := by decide +kernel
theorem dX1_read_19 : decode cX1_read 19 = .ok (.invokevirtual 32, 3) := by decide +kernel
theorem dX1_read_22 : decode cX1_read 22 = .ok (.ifCond .ne 5, 3) := by decide +kernel
theorem dX1_read_25 : decode cX1_read 25 = .ok (.iconst 0, 1) := by decide +kernel
theorem dX1_read_26 : decode cX1_read 26 = .ok (.ireturn, 1) := by decide +kernel
theorem dX1_read_27 : decode cX1_read 27 = .ok (.aload_n 0, 1) := by decide +kernel
theorem dX1_read_28 : decode cX1_read 28 = .ok (.dup, 1) := by decide +kernel
theorem dX1_read_29 : decode cX1_read 29 = .ok (.getfield 24, 3) := by decide +kernel
theorem dX1_read_32 : decode cX1_read 32 = .ok (.iconst 1, 1) := by decide +kernel
theorem dX1_read_33 : decode cX1_read 33 = .ok (.iadd, 1) := by decide +kernel
theorem dX1_read_34 : decode cX1_read 34 = .ok (.putfield 24, 3) := by decide +kernel
theorem dX1_read_37 : decode cX1_read 37 = .ok (.aload_n 0, 1) := by decide +kernel
theorem dX1_read_38 : decode cX1_read 38 = .ok (.getfield 27, 3) := by decide +kernel
theorem dX1_read_41 : decode cX1_read 41 = .ok (.aload_n 0, 1) := by decide +kernel
theorem dX1_read_42 : decode cX1_read 42 = .ok (.getfield 15, 3) := by decide +kernel
theorem dX1_read_45 : decode cX1_read 45 = .ok (.if_icmp .ne 5, 3) := by decide +kernel
theorem dX1_read_48 : decode cX1_read 48 = .ok (.iconst 1, 1) := by decide +kernel
theorem dX1_read_49 : decode cX1_read 49 = .ok (.ireturn, 1) := by decide +kernel
theorem dX1_read_50 : decode cX1_read 50 = .ok (.aload_n 0, 1) := by decide +kernel
theorem dX1_read_51 : decode cX1_read 51 = .ok (.bipush 59, 2) := by decide +kernel
theorem dX1_read_53 : decode cX1_read 53 = .ok (.invokevirtual 36, 3) := by decide +kernel
theorem dX1_read_56 : decode cX1_read 56 = .ok (.ifCond .ne 5, 3) := by decide +kernel
theorem dX1_read_59 : decode cX1_read 59 = .ok (.iconst 0, 1) := by decide +kernel
theorem dX1_read_60 : decode cX1_read 60 = .ok (.ireturn, 1) := by decide +kernel
theorem dX1_read_61 : decode cX1_read 61 = .ok (.iinc 1 1, 3) := by decide +kernel
theorem dX1_read_64 : decode cX1_read 64 = .ok (.goto (-52), 3) := by decide +kernel
theorem dX1_read_67 : decode cX1_read 67 = .ok (.iconst 0, 1) := by decide +kernel
theorem dX1_read_68 : decode cX1_read 68 = .ok (.ireturn, 1) := by decide +kernel
set_option maxRecDepth 20000 in
theorem ggX1_readItem_X1_readNumber : GoodIn wsX1_readItem wsX1_readNumber := goodIn_r _ [5, 6, 7, 8, 9, 10, 11, 4, 12, 13, 14, 27, 28, 29, 30, 31] (by decide +kernel) (by decide +kernel)
set_option maxRecDepth 20000 in
theorem gX1_readItem_X1_readNumber : GoodIn wsX1_readItem (wsV RX1 40 RX1 yX1_readNumber wsX1_readNumber) := goodIn_app (goodIn_of _ (by decide +kernel)) ggX1_readItem_X1_readNumber
set_option maxRecDepth 20000 in
theorem ggX1_readItem_X1_accept : GoodIn wsX1_readItem wsX1_accept := goodIn_r _ [18, 6, 13, 14, 27, 28, 29, 30, 31] (by decide +kernel) (by decide +kernel)
set_option maxRecDepth 20000 in
theorem gX1_readItem_X1_accept : GoodIn wsX1_readItem (wsV RX1 36 RX1 yX1_accept wsX1_accept) := goodIn_app (goodIn_of _ (by decide +kernel)) ggX1_readItem_X1_accept
set_option maxRecDepth 20000 in
theorem ggX1_readItem_X1_readDeviation : GoodIn wsX1_readItem wsX1_readDeviation := goodIn_r _ [22, 7, 8, 15, 16, 17, 4, 18, 6, 13, 14, 1, 2, 3, 5, 9, 10, 11, 12, 27, 28, 29, 30, 31] (by decide +kernel) (by decide +kernel)
set_option maxRecDepth 20000 in
theorem gX1_readItem_X1_readDeviation : GoodIn wsX1_readItem (wsV RX1 44 RX1 yX1_readDeviation wsX1_readDeviation) := goodIn_app (goodIn_of _ (by decide +kernel)) ggX1_readItem_X1_readDeviation
set_option maxRecDepth 20000 in
theorem ggX1_readItem_X1_readGroup : GoodIn wsX1_readItem wsX1_readGroup := goodIn_r _ [26, 7, 8, 6, 15, 16, 17, 4, 18, 13, 14, 9, 10, 11, 12, 27, 28, 29, 30, 31] (by decide +kernel) (by decide +kernel)
set_option maxRecDepth 20000 in
theorem gX1_readItem_X1_readGroup : GoodIn wsX1_readItem (wsV RX1 48 RX1 yX1_readGroup wsX1_readGroup) := goodIn_app (goodIn_of _ (by decide +kernel)) ggX1_readItem_X1_readGroup
theorem dX1_readItem_0 : decode cX1_readItem 0 = .ok (.aload_n 0, 1) := by decide +kernel
theorem dX1_readItem_1 : decode cX1_readItem 1 = .ok (.iconst 0, 1) := by decide +kernel
theorem dX1_readItem_2 : decode cX1_readItem 2 = .ok (.iconst 1, 1) := by decide +kernel
theorem dX1_readItem_3 : decode cX1_readItem 3 = .ok (.invokevirtual 40, 3) := by decide +kernel
theorem dX1_readItem_6 : decode cX1_readItem 6 = .ok (.ifCond .eq 52, 3) := by decide +kernel
theorem dX1_readItem_9 : decode cX1_readItem 9 = .ok (.aload_n 0, 1) := by decide +kernel
theorem dX1_readItem_10 : decode cX1_readItem 10 = .ok (.bipush 47, 2) := by decide +kernel
theorem dX1_readItem_12 : decode cX1_readItem 12 = .ok (.invokevirtual 36, 3) := by decide +kernel
theorem dX1_readItem_15 : decode cX1_readItem 15 = .ok (.ifCond .eq 43, 3) := by decide +kernel
theorem dX1_readItem_18 : decode cX1_readItem 18 = .ok (.aload_n 0, 1) := by decide +kernel
theorem dX1_readItem_19 : decode cX1_readItem 19 = .ok (.iconst 1, 1) := by decide +kernel
theorem dX1_readItem_20 : decode cX1_readItem 20 = .ok (.iconst 1, 1) := by decide +kernel
theorem dX1_readItem_21 : decode cX1_readItem 21 = .ok (.invokevirtual 40, 3) := by decide +kernel
theorem dX1_readItem_24 : decode cX1_readItem 24 = .ok (.ifCond .eq 34, 3) := by decide +kernel
theorem dX1_readItem_27 : decode cX1_readItem 27 = .ok (.aload_n 0, 1) := by decide +kernel
theorem dX1_readItem_28 : decode cX1_readItem 28 = .ok (.bipush 43, 2) := by decide +kernel
theorem dX1_readItem_30 : decode cX1_readItem 30 = .ok (.iconst 2, 1) := by decide +kernel
theorem dX1_readItem_31 : decode cX1_readItem 31 = .ok (.invokevirtual 44, 3) := by decide +kernel
theorem dX1_readItem_34 : decode cX1_readItem 34 = .ok (.ifCond .eq 24, 3) := by decide +kernel
theorem dX1_readItem_37 : decode cX1_readItem 37 = .ok (.aload_n 0, 1) := by decide +kernel
theorem dX1_readItem_38 : decode cX1_readItem 38 = .ok (.bipush 45, 2) := by decide +kernel
theorem dX1_readItem_40 : decode cX1_readItem 40 = .ok (.iconst 3, 1) := by decide +kernel
theorem dX1_readItem_41 : decode cX1_readItem 41 = .ok (.invokevirtual 44, 3) := by decide +kernel
theorem dX1_readItem_44 : decode cX1_readItem 44 = .ok (.ifCond .eq 14, 3) := by decide +kernel
theorem dX1_readItem_47 : decode cX1_readItem 47 = .ok (.aload_n 0, 1) := by decide +kernel
theorem dX1_readItem_48 : decode cX1_readItem 48 = .ok (.invokevirtual 48, 3) := by decide +kernel
theorem dX1_readItem_51 : decode cX1_readItem 51 = .ok (.ifCond .eq 7, 3) := by decide +kernel
theorem dX1_readItem_54 : decode cX1_readItem 54 = .ok (.iconst 1, 1) := by decide +kernel
theorem dX1_readItem_55 : decode cX1_readItem 55 = .ok (.goto 4, 3) := by decide +kernel
theorem dX1_readItem_58 : decode cX1_readItem 58 = .ok (.iconst 0, 1) := by decide +kernel
theorem dX1_readItem_59 : decode cX1_readItem 59 = .ok (.ireturn, 1) := by decide +kernel
set_option maxRecDepth 20000 in
theorem ggX1_readDeviation_X1_accept : GoodIn wsX1_readDeviation wsX1_accept := goodIn_r _ [7, 8, 9, 10, 19, 20, 21, 22, 23] (by decide +kernel) (by decide +kernel)
set_option maxRecDepth 20000 in
theorem gX1_readDeviation_X1_accept : GoodIn wsX1_readDeviation (wsV RX1 36 RX1 yX1_accept wsX1_accept) := goodIn_app (goodIn_of _ (by decide +kernel)) ggX1_readDeviation_X1_accept
set_option maxRecDepth 20000 in
theorem ggX1_readDeviation_X1_readNumber : GoodIn wsX1_readDeviation wsX1_readNumber := goodIn_r _ [14, 8, 1, 2, 15, 16, 17, 6, 18, 9, 10, 19, 20, 21, 22, 23] (by decide +kernel) (by decide +kernel)
set_option maxRecDepth 20000 in
theorem gX1_readDeviation_X1_readNumber : GoodIn wsX1_readDeviation (wsV RX1 40 RX1 yX1_readNumber wsX1_readNumber) := goodIn_app (goodIn_of _ (by decide +kernel)) ggX1_readDeviation_X1_readNumber
theorem dX1_readDeviation_0 : decode cX1_readDeviation 0 = .ok (.aload_n 0, 1) := by decide +kernel
theorem dX1_readDeviation_1 : decode cX1_readDeviation 1 = .ok (.iload_n 1, 1) := by decide +kernel
theorem dX1_readDeviation_2 : decode cX1_readDeviation 2 = .ok (.invokevirtual 36, 3) := by decide +kernel
theorem dX1_readDeviation_5 : decode cX1_readDeviation 5 = .ok (.ifCond .eq 10, 3) := by decide +kernel
theorem dX1_readDeviation_8 : decode cX1_readDeviation 8 = .ok (.aload_n 0, 1) := by decide +kernel
theorem dX1_readDeviation_9 : decode cX1_readDeviation 9 = .ok (.iload_n 2, 1) := by decide +kernel
theorem dX1_readDeviation_10 : decode cX1_readDeviation 10 = .ok (.iconst 0, 1) := by decide +kernel
theorem dX1_readDeviation_11 : decode cX1_readDeviation 11 = .ok (.invokevirtual 40, 3) := by decide +kernel
theorem dX1_readDeviation_14 : decode cX1_readDeviation 14 = .ok (.ireturn, 1) := by decide +kernel
theorem dX1_readDeviation_15 : decode cX1_readDeviation 15 = .ok (.aload_n 0, 1) := by decide +kernel
theorem dX1_readDeviation_16 : decode cX1_readDeviation 16 = .ok (.getfield 21, 3) := by decide +kernel
theorem dX1_readDeviation_19 : decode cX1_readDeviation 19 = .ok (.iload_n 2, 1) := by decide +kernel
theorem dX1_readDeviation_20 : decode cX1_readDeviation 20 = .ok (.aaload, 1) := by decide +kernel
theorem dX1_readDeviation_21 : decode cX1_readDeviation 21 = .ok (.aload_n 0, 1) := by decide +kernel
theorem dX1_readDeviation_22 : decode cX1_readDeviation 22 = .ok (.getfield 24, 3) := by decide +kernel
theorem dX1_readDeviation_25 : decode cX1_readDeviation 25 = .ok (.iconst 0, 1) := by decide +kernel
theorem dX1_readDeviation_26 : decode cX1_readDeviation 26 = .ok (.iastore, 1) := by decide +kernel
theorem dX1_readDeviation_27 : decode cX1_readDeviation 27 = .ok (.iconst 1, 1) := by decide +kernel
theorem dX1_readDeviation_28 : decode cX1_readDeviation 28 = .ok (.ireturn, 1) := by decide +kernel
set_option maxRecDepth 20000 in
theorem ggX1_readGroup_X1_accept : GoodIn wsX1_readGroup wsX1_accept := goodIn_r _ [8, 3, 9, 10, 15, 16, 17, 18, 19] (by decide +kernel) (by decide +kernel)
set_option maxRecDepth 20000 in
theorem gX1_readGroup_X1_accept : GoodIn wsX1_readGroup (wsV RX1 36 RX1 yX1_accept wsX1_accept) := goodIn_app (goodIn_of _ (by decide +kernel)) ggX1_readGroup_X1_accept
set_option maxRecDepth 20000 in
theorem ggX1_readGroup_X1_digit : GoodIn wsX1_readGroup wsX1_digit := goodIn_r _ [14, 3, 9, 10, 15, 16, 17, 18, 19] (by decide +kernel) (by decide +kernel)
set_option maxRecDepth 20000 in
theorem gX1_readGroup_X1_digit : GoodIn wsX1_readGroup (wsV RX1 51 RX1 yX1_digit wsX1_digit) := goodIn_app (goodIn_of _ (by decide +kernel)) ggX1_readGroup_X1_digit
theorem dX1_readGroup_0 : decode cX1_readGroup 0 = .ok (.aload_n 0, 1) := by decide +kernel
theorem dX1_readGroup_1 : decode cX1_readGroup 1 = .ok (.getfield 21, 3) := by decide +kernel
theorem dX1_readGroup_4 : decode cX1_readGroup 4 = .ok (.iconst 4, 1) := by decide +kernel
theorem dX1_readGroup_5 : decode cX1_readGroup 5 = .ok (.aaload, 1) := by decide +kernel
theorem dX1_readGroup_6 : decode cX1_readGroup 6 = .ok (.aload_n 0, 1) := by decide +kernel
theorem dX1_readGroup_7 : decode cX1_readGroup 7 = .ok (.getfield 24, 3) := by decide +kernel
theorem dX1_readGroup_10 : decode cX1_readGroup 10 = .ok (.iconst (-1), 1) := by decide +kernel
theorem dX1_readGroup_11 : decode cX1_readGroup 11 = .ok (.iastore, 1) := by decide +kernel
theorem dX1_readGroup_12 : decode cX1_readGroup 12 = .ok (.aload_n 0, 1) := by decide +kernel
theorem dX1_readGroup_13 : decode cX1_readGroup 13 = .ok (.bipush 64, 2) := by decide +kernel
theorem dX1_readGroup_15 : decode cX1_readGroup 15 = .ok (.invokevirtual 36, 3) := by decide +kernel
theorem dX1_readGroup_18 : decode cX1_readGroup 18 = .ok (.ifCond .ne 5, 3) := by decide +kernel
theorem dX1_readGroup_21 : decode cX1_readGroup 21 = .ok (.iconst 1, 1) := by decide +kernel
theorem dX1_readGroup_22 : decode cX1_readGroup 22 = .ok (.ireturn, 1) := by decide +kernel
theorem dX1_readGroup_23 : decode cX1_readGroup 23 = .ok (.aload_n 0, 1) := by decide +kernel
theorem dX1_readGroup_24 : decode cX1_readGroup 24 = .ok (.invokevirtual 51, 3) := by decide +kernel
theorem dX1_readGroup_27 : decode cX1_readGroup 27 = .ok (.istore_n 1, 1) := by decide +kernel
theorem dX1_readGroup_28 : decode cX1_readGroup 28 = .ok (.iload_n 1, 1) := by decide +kernel
theorem dX1_readGroup_29 : decode cX1_readGroup 29 = .ok (.ifCond .lt 8, 3) := by decide +kernel
theorem dX1_readGroup_32 : decode cX1_readGroup 32 = .ok (.iload_n 1, 1) := by decide +kernel
theorem dX1_readGroup_33 : decode cX1_readGroup 33 = .ok (.iconst 3, 1) := by decide +kernel
theorem dX1_readGroup_34 : decode cX1_readGroup 34 = .ok (.if_icmp .le 5, 3) := by decide +kernel
theorem dX1_readGroup_37 : decode cX1_readGroup 37 = .ok (.iconst 0, 1) := by decide +kernel
theorem dX1_readGroup_38 : decode cX1_readGroup 38 = .ok (.ireturn, 1) := by decide +kernel
theorem dX1_readGroup_39 : decode cX1_readGroup 39 = .ok (.aload_n 0, 1) := by decide +kernel
theorem dX1_readGroup_40 : decode cX1_readGroup 40 = .ok (.getfield 21, 3) := by decide +kernel
theorem dX1_readGroup_43 : decode cX1_readGroup 43 = .ok (.iconst 4, 1) := by decide +kernel
theorem dX1_readGroup_44 : decode cX1_readGroup 44 = .ok (.aaload, 1) := by decide +kernel
theorem dX1_readGroup_45 : decode cX1_readGroup 45 = .ok (.aload_n 0, 1) := by decide +kernel
theorem dX1_readGroup_46 : decode cX1_readGroup 46 = .ok (.getfield 24, 3) := by decide +kernel
theorem dX1_readGroup_49 : decode cX1_readGroup 49 = .ok (.iload_n 1, 1) := by decide +kernel
theorem dX1_readGroup_50 : decode cX1_readGroup 50 = .ok (.iastore, 1) := by decide +kernel
theorem dX1_readGroup_51 : decode cX1_readGroup 51 = .ok (.aload_n 0, 1) := by decide +kernel
theorem dX1_readGroup_52 : decode cX1_readGroup 52 = .ok (.dup, 1) := by decide +kernel
theorem dX1_readGroup_53 : decode cX1_readGroup 53 = .ok (.getfield 27, 3) := by decide +kernel
theorem dX1_readGroup_56 : decode cX1_readGroup 56 = .ok (.iconst 1, 1) := by decide +kernel
theorem dX1_readGroup_57 : decode cX1_readGroup 57 = .ok (.iadd, 1) := by decide +kernel
theorem dX1_readGroup_58 : decode cX1_readGroup 58 = .ok (.putfield 27, 3) := by decide +kernel
theorem dX1_readGroup_61 : decode cX1_readGroup 61 = .ok (.iconst 1, 1) := by decide +kernel
theorem dX1_readGroup_62 : decode cX1_readGroup 62 = .ok (.ireturn, 1) := by decide +kernel
set_option maxRecDepth 20000 in
theorem ggX1_readNumber_X1_digit : GoodIn wsX1_readNumber wsX1_digit := goodIn_r _ [8, 1, 9, 10, 11, 12, 13, 14, 15] (by decide +kernel) (by decide +kernel)
set_option maxRecDepth 20000 in
theorem gX1_readNumber_X1_digit : GoodIn wsX1_readNumber (wsV RX1 51 RX1 yX1_digit wsX1_digit) := goodIn_app (goodIn_of _ (by decide +kernel)) ggX1_readNumber_X1_digit
theorem dX1_readNumber_0 : decode cX1_readNumber 0 = .ok (.aload_n 0, 1) := by decide +kernel
theorem dX1_readNumber_1 : decode cX1_readNumber 1 = .ok (.invokevirtual 51, 3) := by decide +kernel
theorem dX1_readNumber_4 : decode cX1_readNumber 4 = .ok (.istore_n 3, 1) := by decide +kernel
theorem dX1_readNumber_5 : decode cX1_readNumber 5 = .ok (.iload_n 3, 1) := by decide +kernel
theorem dX1_readNumber_6 : decode cX1_readNumber 6 = .ok (.iload_n 2, 1) := by decide +kernel
theorem dX1_readNumber_7 : decode cX1_readNumber 7 = .ok (.if_icmp .ge 5, 3) := by decide +kernel
theorem dX1_readNumber_10 : decode cX1_readNumber 10 = .ok (.iconst 0, 1) := by decide +kernel
theorem dX1_readNumber_11 : decode cX1_readNumber 11 = .ok (.ireturn, 1) := by decide +kernel
theorem dX1_readNumber_12 : decode cX1_readNumber 12 = .ok (.aload_n 0, 1) := by decide +kernel
theorem dX1_readNumber_13 : decode cX1_readNumber 13 = .ok (.dup, 1) := by decide +kernel
theorem dX1_readNumber_14 : decode cX1_readNumber 14 = .ok (.getfield 27, 3) := by decide +kernel
theorem dX1_readNumber_17 : decode cX1_readNumber 17 = .ok (.iconst 1, 1) := by decide +kernel
theorem dX1_readNumber_18 : decode cX1_readNumber 18 = .ok (.iadd, 1) := by decide +kernel
theorem dX1_readNumber_19 : decode cX1_readNumber 19 = .ok (.putfield 27, 3) := by decide +kernel
theorem dX1_readNumber_22 : decode cX1_readNumber 22 = .ok (.iconst 1, 1) := by decide +kernel
theorem dX1_readNumber_23 : decode cX1_readNumber 23 = .ok (.istore 4, 2) := by decide +kernel
theorem dX1_readNumber_25 : decode cX1_readNumber 25 = .ok (.iload 4, 2) := by decide +kernel
theorem dX1_readNumber_27 : decode cX1_readNumber 27 = .ok (.iconst 3, 1) := by decide +kernel
theorem dX1_readNumber_28 : decode cX1_readNumber 28 = .ok (.if_icmp .ge 40, 3) := by decide +kernel
theorem dX1_readNumber_31 : decode cX1_readNumber 31 = .ok (.iload_n 3, 1) := by decide +kernel
theorem dX1_readNumber_32 : decode cX1_readNumber 32 = .ok (.ifCond .le 36, 3) := by decide +kernel
theorem dX1_readNumber_35 : decode cX1_readNumber 35 = .ok (.aload_n 0, 1) := by decide +kernel
theorem dX1_readNumber_36 : decode cX1_readNumber 36 = .ok (.invokevirtual 51, 3) := by decide +kernel
theorem dX1_readNumber_39 : decode cX1_readNumber 39 = .ok (.ifCond .lt 29, 3) := by decide +kernel
theorem dX1_readNumber_42 : decode cX1_readNumber 42 = .ok (.iload_n 3, 1) := by decide +kernel
theorem dX1_readNumber_43 : decode cX1_readNumber 43 = .ok (.bipush 10, 2) := by decide +kernel
theorem dX1_readNumber_45 : decode cX1_readNumber 45 = .ok (.imul, 1) := by decide +kernel
theorem dX1_readNumber_46 : decode cX1_readNumber 46 = .ok (.aload_n 0, 1) := by decide +kernel
theorem dX1_readNumber_47 : decode cX1_readNumber 47 = .ok (.invokevirtual 51, 3) := by decide +kernel
theorem dX1_readNumber_50 : decode cX1_readNumber 50 = .ok (.iadd, 1) := by decide +kernel
theorem dX1_readNumber_51 : decode cX1_readNumber 51 = .ok (.istore_n 3, 1) := by decide +kernel
theorem dX1_readNumber_52 : decode cX1_readNumber 52 = .ok (.aload_n 0, 1) := by decide +kernel
theorem dX1_readNumber_53 : decode cX1_readNumber 53 = .ok (.dup, 1) := by decide +kernel
theorem dX1_readNumber_54 : decode cX1_readNumber 54 = .ok (.getfield 27, 3) := by decide +kernel
theorem dX1_readNumber_57 : decode cX1_readNumber 57 = .ok (.iconst 1, 1) := by decide +kernel
theorem dX1_readNumber_58 : decode cX1_readNumber 58 = .ok (.iadd, 1) := by decide +kernel
theorem dX1_readNumber_59 : decode cX1_readNumber 59 = .ok (.putfield 27, 3) := by decide +kernel
theorem dX1_readNumber_62 : decode cX1_readNumber 62 = .ok (.iinc 4 1, 3) := by decide +kernel
theorem dX1_readNumber_65 : decode cX1_readNumber 65 = .ok (.goto (-40), 3) := by decide +kernel
theorem dX1_readNumber_68 : decode cX1_readNumber 68 = .ok (.aload_n 0, 1) := by decide +kernel
theorem dX1_readNumber_69 : decode cX1_readNumber 69 = .ok (.getfield 21, 3) := by decide +kernel
theorem dX1_readNumber_72 : decode cX1_readNumber 72 = .ok (.iload_n 1, 1) := by decide +kernel
theorem dX1_readNumber_73 : decode cX1_readNumber 73 = .ok (.aaload, 1) := by decide +kernel
theorem dX1_readNumber_74 : decode cX1_readNumber 74 = .ok (.aload_n 0, 1) := by decide +kernel
theorem dX1_readNumber_75 : decode cX1_readNumber 75 = .ok (.getfield 24, 3) := by decide +kernel
theorem dX1_readNumber_78 : decode cX1_readNumber 78 = .ok (.iload_n 3, 1) := by decide +kernel
theorem dX1_readNumber_79 : decode cX1_readNumber 79 = .ok (.iastore, 1) := by decide +kernel
theorem dX1_readNumber_80 : decode cX1_readNumber 80 = .ok (.iconst 1, 1) := by decide +kernel
theorem dX1_readNumber_81 : decode cX1_readNumber 81 = .ok (.ireturn, 1) := by decide +kernel
theorem dX1_accept_0 : decode cX1_accept 0 = .ok (.aload_n 0, 1) := by decide +kernel
theorem dX1_accept_1 : decode cX1_accept 1 = .ok (.getfield 27, 3) := by decide +kernel
theorem dX1_accept_4 : decode cX1_accept 4 = .ok (.aload_n 0, 1) := by decide +kernel
theorem dX1_accept_5 : decode cX1_accept 5 = .ok (.getfield 15, 3) := by decide +kernel
theorem dX1_accept_8 : decode cX1_accept 8 = .ok (.if_icmp .ge 16, 3) := by decide +kernel
theorem dX1_accept_11 : decode cX1_accept 11 = .ok (.aload_n 0, 1) := by decide +kernel
theorem dX1_accept_12 : decode cX1_accept 12 = .ok (.getfield 9, 3) := by decide +kernel
theorem dX1_accept_15 : decode cX1_accept 15 = .ok (.aload_n 0, 1) := by decide +kernel
theorem dX1_accept_16 : decode cX1_accept 16 = .ok (.getfield 27, 3) := by decide +kernel
theorem dX1_accept_19 : decode cX1_accept 19 = .ok (.iaload, 1) := by decide +kernel
theorem dX1_accept_20 : decode cX1_accept 20 = .ok (.iload_n 1, 1) := by decide +kernel
theorem dX1_accept_21 : decode cX1_accept 21 = .ok (.if_icmp .eq 5, 3) := by decide +kernel
theorem dX1_accept_24 : decode cX1_accept 24 = .ok (.iconst 0, 1) := by decide +kernel
theorem dX1_accept_25 : decode cX1_accept 25 = .ok (.ireturn, 1) := by decide +kernel
theorem dX1_accept_26 : decode cX1_accept 26 = .ok (.aload_n 0, 1) := by decide +kernel
theorem dX1_accept_27 : decode cX1_accept 27 = .ok (.dup, 1) := by decide +kernel
theorem dX1_accept_28 : decode cX1_accept 28 = .ok (.getfield 27, 3) := by decide +kernel
theorem dX1_accept_31 : decode cX1_accept 31 = .ok (.iconst 1, 1) := by decide +kernel
theorem dX1_accept_32 : decode cX1_accept 32 = .ok (.iadd, 1) := by decide +kernel
theorem dX1_accept_33 : decode cX1_accept 33 = .ok (.putfield 27, 3) := by decide +kernel
theorem dX1_accept_36 : decode cX1_accept 36 = .ok (.iconst 1, 1) := by decide +kernel
theorem dX1_accept_37 : decode cX1_accept 37 = .ok (.ireturn, 1) := by decide +kernel
theorem dX1_digit_0 : decode cX1_digit 0 = .ok (.aload_n 0, 1) := by decide +kernel
theorem dX1_digit_1 : decode cX1_digit 1 = .ok (.getfield 27, 3) := by decide +kernel
theorem dX1_digit_4 : decode cX1_digit 4 = .ok (.aload_n 0, 1) := by decide +kernel
theorem dX1_digit_5 : decode cX1_digit 5 = .ok (.getfield 15, 3) := by decide +kernel
theorem dX1_digit_8 : decode cX1_digit 8 = .ok (.if_icmp .ge 31, 3) := by decide +kernel
theorem dX1_digit_11 : decode cX1_digit 11 = .ok (.aload_n 0, 1) := by decide +kernel
theorem dX1_digit_12 : decode cX1_digit 12 = .ok (.getfield 9, 3) := by decide +kernel
theorem dX1_digit_15 : decode cX1_digit 15 = .ok (.aload_n 0, 1) := by decide +kernel
theorem dX1_digit_16 : decode cX1_digit 16 = .ok (.getfield 27, 3) := by decide +kernel
theorem dX1_digit_19 : decode cX1_digit 19 = .ok (.iaload, 1) := by decide +kernel
theorem dX1_digit_20 : decode cX1_digit 20 = .ok (.bipush 48, 2) := by decide +kernel
theorem dX1_digit_22 : decode cX1_digit 22 = .ok (.if_icmp .lt 17, 3) := by decide +kernel
theorem dX1_digit_25 : decode cX1_digit 25 = .ok (.aload_n 0, 1) := by decide +kernel
theorem dX1_digit_26 : decode cX1_digit 26 = .ok (.getfield 9, 3) := by decide +kernel
theorem dX1_digit_29 : decode cX1_digit 29 = .ok (.aload_n 0, 1) := by decide +kernel
theorem dX1_digit_30 : decode cX1_digit 30 = .ok (.getfield 27, 3) := by decide +kernel
theorem dX1_digit_33 : decode cX1_digit 33 = .ok (.iaload, 1) := by decide +kernel
theorem dX1_digit_34 : decode cX1_digit 34 = .ok (.bipush 57, 2) := by decide +kernel
theorem dX1_digit_36 : decode cX1_digit 36 = .ok (.if_icmp .le 5, 3) := by decide +kernel
theorem dX1_digit_39 : decode cX1_digit 39 = .ok (.iconst (-1), 1) := by decide +kernel
theorem dX1_digit_40 : decode cX1_digit 40 = .ok (.ireturn, 1) := by decide +kernel
theorem dX1_digit_41 : decode cX1_digit 41 = .ok (.aload_n 0, 1) := by decide +kernel
theorem dX1_digit_42 : decode cX1_digit 42 = .ok (.getfield 9, 3) := by decide +kernel
theorem dX1_digit_45 : decode cX1_digit 45 = .ok (.aload_n 0, 1) := by decide +kernel
theorem dX1_digit_46 : decode cX1_digit 46 = .ok (.getfield 27, 3) := by decide +kernel
theorem dX1_digit_49 : decode cX1_digit 49 = .ok (.iaload, 1) := by decide +kernel
theorem dX1_digit_50 : decode cX1_digit 50 = .ok (.bipush 48, 2) := by decide +kernel
theorem dX1_digit_52 : decode cX1_digit 52 = .ok (.isub, 1) := by decide +kernel
theorem dX1_digit_53 : decode cX1_digit 53 = .ok (.ireturn, 1) := by decide +kernel
theorem dX2_init_0 : decode cX2_init 0 = .ok (.aload_n 0, 1) := by decide +kernel
theorem dX2_init_1 : decode cX2_init 1 = .ok (.invokespecial 3, 3) := by decide +kernel
theorem dX2_init_4 : decode cX2_init 4 = .ok (.aload_n 0, 1) := by decide +kernel
theorem dX2_init_5 : decode cX2_init 5 = .ok (.sipush 4096, 3) := by decide +kernel
theorem dX2_init_8 : decode cX2_init 8 = .ok (.newarray .int, 2) := by decide +kernel
theorem dX2_init_10 : decode cX2_init 10 = .ok (.putfield 9, 3) := by decide +kernel
theorem dX2_init_13 : decode cX2_init 13 = .ok (.aload_n 0, 1) := by decide +kernel
theorem dX2_init_14 : decode cX2_init 14 = .ok (.sipush 4096, 3) := by decide +kernel
theorem dX2_init_17 : decode cX2_init 17 = .ok (.newarray .int, 2) := by decide +kernel
theorem dX2_init_19 : decode cX2_init 19 = .ok (.putfield 15, 3) := by decide +kernel
theorem dX2_init_22 : decode cX2_init 22 = .ok (.aload_n 0, 1) := by decide +kernel
theorem dX2_init_23 : decode cX2_init 23 = .ok (.sipush 4096, 3) := by decide +kernel
theorem dX2_init_26 : decode cX2_init 26 = .ok (.newarray .int, 2) := by decide +kernel
theorem dX2_init_28 : decode cX2_init 28 = .ok (.putfield 18, 3) := by decide +kernel
theorem dX2_init_31 : decode cX2_init 31 = .ok (.aload_n 0, 1) := by decide +kernel
theorem dX2_init_32 : decode cX2_init 32 = .ok (.bipush 12, 2) := by decide +kernel
theorem dX2_init_34 : decode cX2_init 34 = .ok (.newarray .int, 2) := by decide +kernel
theorem dX2_init_36 : decode cX2_init 36 = .ok (.putfield 21, 3) := by decide +kernel
theorem dX2_init_39 : decode cX2_init 39 = .ok (.aload_n 0, 1) := by decide +kernel
theorem dX2_init_40 : decode cX2_init 40 = .ok (.iconst 0, 1) := by decide +kernel
theorem dX2_init_41 : decode cX2_init 41 = .ok (.putfield 24, 3) := by decide +kernel
theorem dX2_init_44 : decode cX2_init 44 = .ok (.return_, 1) := by decide +kernel
set_option maxRecDepth 20000 in
theorem ggX2_collect_X5_sumUp : GoodIn wsX2_collect wsX5_sumUp := goodIn_r _ [9] (by decide +kernel) (by decide +kernel)
set_option maxRecDepth 20000 in
theorem gX2_collect_X5_sumUp_n37 : GoodIn wsX2_collect (wsX5_sumUp) := ggX2_collect_X5_sumUp
set_option maxRecDepth 20000 in
theorem ggX2_collect_J6_bitCount_0f7a4 : GoodIn wsX2_collect wsJ6_bitCount_0f7a4 := goodIn_r _ [13, 14, 15, 16] (by decide +kernel) (by decide +kernel)
set_option maxRecDepth 20000 in
theorem gX2_collect_J6_bitCount_0f7a4 : GoodIn wsX2_collect (va_wsS RX2 41 yJ6_bitCount_0f7a4 wsJ6_bitCount_0f7a4) := goodIn_app (goodIn_of _ (by decide +kernel)) ggX2_collect_J6_bitCount_0f7a4
set_option maxRecDepth 20000 in
theorem ggX2_collect_X0_allows : GoodIn wsX2_collect wsX0_allows := goodIn_r _ [21, 22, 33, 34, 35, 36, 37, 38, 39, 40, 41, 42] (by decide +kernel) (by decide +kernel)
set_option maxRecDepth 20000 in
theorem gX2_collect_X0_allows : GoodIn wsX2_collect (wsV RX2 47 RX0 yX0_allows wsX0_allows) := goodIn_app (goodIn_of _ (by decide +kernel)) ggX2_collect_X0_allows
theorem dX2_collect_0 : decode cX2_collect 0 = .ok (.aload_n 0, 1) := by decide +kernel
theorem dX2_collect_1 : decode cX2_collect 1 = .ok (.getfield 9, 3) := by decide +kernel
theorem dX2_collect_4 : decode cX2_collect 4 = .ok (.aload_n 2, 1) := by decide +kernel
theorem dX2_collect_5 : decode cX2_collect 5 = .ok (.getfield 28, 3) := by decide +kernel
theorem dX2_collect_8 : decode cX2_collect 8 = .ok (.iconst 1, 1) := by decide +kernel
theorem dX2_collect_9 : decode cX2_collect 9 = .ok (.aaload, 1) := by decide +kernel
theorem dX2_collect_10 : decode cX2_collect 10 = .ok (.aload_n 2, 1) := by decide +kernel
theorem dX2_collect_11 : decode cX2_collect 11 = .ok (.getfield 34, 3) := by decide +kernel
theorem dX2_collect_14 : decode cX2_collect 14 = .ok (.invokestatic 37, 3) := by decide +kernel
theorem dX2_collect_17 : decode cX2_collect 17 = .ok (.aload_n 0, 1) := by decide +kernel
theorem dX2_collect_18 : decode cX2_collect 18 = .ok (.getfield 15, 3) := by decide +kernel
theorem dX2_collect_21 : decode cX2_collect 21 = .ok (.aload_n 2, 1) := by decide +kernel
theorem dX2_collect_22 : decode cX2_collect 22 = .ok (.getfield 28, 3) := by decide +kernel
theorem dX2_collect_25 : decode cX2_collect 25 = .ok (.iconst 2, 1) := by decide +kernel
theorem dX2_collect_26 : decode cX2_collect 26 = .ok (.aaload, 1) := by decide +kernel
theorem dX2_collect_27 : decode cX2_collect 27 = .ok (.aload_n 2, 1) := by decide +kernel
theorem dX2_collect_28 : decode cX2_collect 28 = .ok (.getfield 34, 3) := by decide +kernel
theorem dX2_collect_31 : decode cX2_collect 31 = .ok (.invokestatic 37, 3) := by decide +kernel
theorem dX2_collect_34 : decode cX2_collect 34 = .ok (.aload_n 0, 1) := by decide +kernel
theorem dX2_collect_35 : decode cX2_collect 35 = .ok (.iconst 0, 1) := by decide +kernel
theorem dX2_collect_36 : decode cX2_collect 36 = .ok (.putfield 24, 3) := by decide +kernel
theorem dX2_collect_39 : decode cX2_collect 39 = .ok (.iconst 0, 1) := by decide +kernel
theorem dX2_collect_40 : decode cX2_collect 40 = .ok (.istore 5, 2) := by decide +kernel
theorem dX2_collect_42 : decode cX2_collect 42 = .ok (.iload 5, 2) := by decide +kernel
theorem dX2_collect_44 : decode cX2_collect 44 = .ok (.iload_n 3, 1) := by decide +kernel
theorem dX2_collect_45 : decode cX2_collect 45 = .ok (.if_icmp .gt 72, 3) := by decide +kernel
theorem dX2_collect_48 : decode cX2_collect 48 = .ok (.iload 5, 2) := by decide +kernel
theorem dX2_collect_50 : decode cX2_collect 50 = .ok (.iload_n 3, 1) := by decide +kernel
theorem dX2_collect_51 : decode cX2_collect 51 = .ok (.iconst (-1), 1) := by decide +kernel
theorem dX2_collect_52 : decode cX2_collect 52 = .ok (.ixor, 1) := by decide +kernel
theorem dX2_collect_53 : decode cX2_collect 53 = .ok (.iand, 1) := by decide +kernel
theorem dX2_collect_54 : decode cX2_collect 54 = .ok (.ifCond .ne 7, 3) := by decide +kernel
theorem dX2_collect_57 : decode cX2_collect 57 = .ok (.iconst 1, 1) := by decide +kernel
theorem dX2_collect_58 : decode cX2_collect 58 = .ok (.goto 4, 3) := by decide +kernel
theorem dX2_collect_61 : decode cX2_collect 61 = .ok (.iconst 0, 1) := by decide +kernel
theorem dX2_collect_62 : decode cX2_collect 62 = .ok (.istore 6, 2) := by decide +kernel
theorem dX2_collect_64 : decode cX2_collect 64 = .ok (.iload 6, 2) := by decide +kernel
theorem dX2_collect_66 : decode cX2_collect 66 = .ok (.ifCond .eq 45, 3) := by decide +kernel
theorem dX2_collect_69 : decode cX2_collect 69 = .ok (.iload_n 3, 1) := by decide +kernel
theorem dX2_collect_70 : decode cX2_collect 70 = .ok (.iload 5, 2) := by decide +kernel
theorem dX2_collect_72 : decode cX2_collect 72 = .ok (.ixor, 1) := by decide +kernel
theorem dX2_collect_73 : decode cX2_collect 73 = .ok (.invokestatic 41, 3) := by decide +kernel
theorem dX2_collect_76 : decode cX2_collect 76 = .ok (.iload 4, 2) := by decide +kernel
theorem dX2_collect_78 : decode cX2_collect 78 = .ok (.if_icmp .gt 33, 3) := by decide +kernel
theorem dX2_collect_81 : decode cX2_collect 81 = .ok (.aload_n 1, 1) := by decide +kernel
theorem dX2_collect_82 : decode cX2_collect 82 = .ok (.iload 5, 2) := by decide +kernel
theorem dX2_collect_84 : decode cX2_collect 84 = .ok (.invokevirtual 47, 3) := by decide +kernel
theorem dX2_collect_87 : decode cX2_collect 87 = .ok (.ifCond .eq 24, 3) := by decide +kernel
theorem dX2_collect_90 : decode cX2_collect 90 = .ok (.aload_n 0, 1) := by decide +kernel
theorem dX2_collect_91 : decode cX2_collect 91 = .ok (.getfield 18, 3) := by decide +kernel
theorem dX2_collect_94 : decode cX2_collect 94 = .ok (.aload_n 0, 1) := by decide +kernel
theorem dX2_collect_95 : decode cX2_collect 95 = .ok (.getfield 24, 3) := by decide +kernel
theorem dX2_collect_98 : decode cX2_collect 98 = .ok (.iload 5, 2) := by decide +kernel
theorem dX2_collect_100 : decode cX2_collect 100 = .ok (.iastore, 1) := by decide +kernel
theorem dX2_collect_101 : decode cX2_collect 101 = .ok (.aload_n 0, 1) := by decide +kernel
theorem dX2_collect_102 : decode cX2_collect 102 = .ok (.dup, 1) := by decide +kernel
theorem dX2_collect_103 : decode cX2_collect 103 = .ok (.getfield 24, 3) := by decide +kernel
theorem dX2_collect_106 : decode cX2_collect 106 = .ok (.iconst 1, 1) := by decide +kernel
theorem dX2_collect_107 : decode cX2_collect 107 = .ok (.iadd, 1) := by decide +kernel
theorem dX2_collect_108 : decode cX2_collect 108 = .ok (.putfield 24, 3) := by decide +kernel
theorem dX2_collect_111 : decode cX2_collect 111 = .ok (.iinc 5 1, 3) := by decide +kernel
theorem dX2_collect_114 : decode cX2_collect 114 = .ok (.goto (-72), 3) := by decide +kernel
theorem dX2_collect_117 : decode cX2_collect 117 = .ok (.return_, 1) := by decide +kernel
theorem dX2_profitIn_0 : decode cX2_profitIn 0 = .ok (.bipush (-6), 2) := by decide +kernel
theorem dX2_profitIn_2 : decode cX2_profitIn 2 = .ok (.istore 5, 2) := by decide +kernel
theorem dX2_profitIn_4 : decode cX2_profitIn 4 = .ok (.iconst 0, 1) := by decide +kernel
theorem dX2_profitIn_5 : decode cX2_profitIn 5 = .ok (.istore 6, 2) := by decide +kernel
theorem dX2_profitIn_7 : decode cX2_profitIn 7 = .ok (.iload 6, 2) := by decide +kernel
theorem dX2_profitIn_9 : decode cX2_profitIn 9 = .ok (.aload_n 0, 1) := by decide +kernel
theorem dX2_profitIn_10 : decode cX2_profitIn 10 = .ok (.getfield 24, 3) := by decide +kernel
theorem dX2_profitIn_13 : decode cX2_profitIn 13 = .ok (.if_icmp .ge 82, 3) := by decide +kernel
theorem dX2_profitIn_16 : decode cX2_profitIn 16 = .ok (.iload 5, 2) := by decide +kernel
theorem dX2_profitIn_18 : decode cX2_profitIn 18 = .ok (.iload_n 2, 1) := by decide +kernel
theorem dX2_profitIn_19 : decode cX2_profitIn 19 = .ok (.if_icmp .ge 76, 3) := by decide +kernel
theorem dX2_profitIn_22 : decode cX2_profitIn 22 = .ok (.aload_n 0, 1) := by decide +kernel
theorem dX2_profitIn_23 : decode cX2_profitIn 23 = .ok (.getfield 18, 3) := by decide +kernel
theorem dX2_profitIn_26 : decode cX2_profitIn 26 = .ok (.iload 6, 2) := by decide +kernel
theorem dX2_profitIn_28 : decode cX2_profitIn 28 = .ok (.iaload, 1) := by decide +kernel
theorem dX2_profitIn_29 : decode cX2_profitIn 29 = .ok (.istore 7, 2) := by decide +kernel
theorem dX2_profitIn_31 : decode cX2_profitIn 31 = .ok (.aload_n 3, 1) := by decide +kernel
theorem dX2_profitIn_32 : decode cX2_profitIn 32 = .ok (.iload 7, 2) := by decide +kernel
theorem dX2_profitIn_34 : decode cX2_profitIn 34 = .ok (.iaload, 1) := by decide +kernel
theorem dX2_profitIn_35 : decode cX2_profitIn 35 = .ok (.iload 5, 2) := by decide +kernel
theorem dX2_profitIn_37 : decode cX2_profitIn 37 = .ok (.if_icmp .le 52, 3) := by decide +kernel
theorem dX2_profitIn_40 : decode cX2_profitIn 40 = .ok (.aload_n 0, 1) := by decide +kernel
theorem dX2_profitIn_41 : decode cX2_profitIn 41 = .ok (.getfield 9, 3) := by decide +kernel
theorem dX2_profitIn_44 : decode cX2_profitIn 44 = .ok (.iload 7, 2) := by decide +kernel
theorem dX2_profitIn_46 : decode cX2_profitIn 46 = .ok (.iaload, 1) := by decide +kernel
theorem dX2_profitIn_47 : decode cX2_profitIn 47 = .ok (.aload_n 0, 1) := by decide +kernel
theorem dX2_profitIn_48 : decode cX2_profitIn 48 = .ok (.getfield 15, 3) := by decide +kernel
theorem dX2_profitIn_51 : decode cX2_profitIn 51 = .ok (.iload 7, 2) := by decide +kernel
theorem dX2_profitIn_53 : decode cX2_profitIn 53 = .ok (.iload_n 1, 1) := by decide +kernel
theorem dX2_profitIn_54 : decode cX2_profitIn 54 = .ok (.iand, 1) := by decide +kernel
theorem dX2_profitIn_55 : decode cX2_profitIn 55 = .ok (.iaload, 1) := by decide +kernel
theorem dX2_profitIn_56 : decode cX2_profitIn 56 = .ok (.iadd, 1) := by decide +kernel
theorem dX2_profitIn_57 : decode cX2_profitIn 57 = .ok (.iload 4, 2) := by decide +kernel
theorem dX2_profitIn_59 : decode cX2_profitIn 59 = .ok (.if_icmp .gt 30, 3) := by decide +kernel
theorem dX2_profitIn_62 : decode cX2_profitIn 62 = .ok (.aload_n 3, 1) := by decide +kernel
theorem dX2_profitIn_63 : decode cX2_profitIn 63 = .ok (.iload 7, 2) := by decide +kernel
theorem dX2_profitIn_65 : decode cX2_profitIn 65 = .ok (.iaload, 1) := by decide +kernel
theorem dX2_profitIn_66 : decode cX2_profitIn 66 = .ok (.istore 5, 2) := by decide +kernel
theorem dX2_profitIn_68 : decode cX2_profitIn 68 = .ok (.aload_n 0, 1) := by decide +kernel
theorem dX2_profitIn_69 : decode cX2_profitIn 69 = .ok (.getfield 18, 3) := by decide +kernel
theorem dX2_profitIn_72 : decode cX2_profitIn 72 = .ok (.iload 6, 2) := by decide +kernel
theorem dX2_profitIn_74 : decode cX2_profitIn 74 = .ok (.aload_n 0, 1) := by decide +kernel
theorem dX2_profitIn_75 : decode cX2_profitIn 75 = .ok (.getfield 18, 3) := by decide +kernel
theorem dX2_profitIn_78 : decode cX2_profitIn 78 = .ok (.iconst 0, 1) := by decide +kernel
theorem dX2_profitIn_79 : decode cX2_profitIn 79 = .ok (.iaload, 1) := by decide +kernel
theorem dX2_profitIn_80 : decode cX2_profitIn 80 = .ok (.iastore, 1) := by decide +kernel
theorem dX2_profitIn_81 : decode cX2_profitIn 81 = .ok (.aload_n 0, 1) := by decide +kernel
theorem dX2_profitIn_82 : decode cX2_profitIn 82 = .ok (.getfield 18, 3) := by decide +kernel
theorem dX2_profitIn_85 : decode cX2_profitIn 85 = .ok (.iconst 0, 1) := by decide +kernel
theorem dX2_profitIn_86 : decode cX2_profitIn 86 = .ok (.iload 7, 2) := by decide +kernel
theorem dX2_profitIn_88 : decode cX2_profitIn 88 = .ok (.iastore, 1) := by decide +kernel
theorem dX2_profitIn_89 : decode cX2_profitIn 89 = .ok (.iinc 6 1, 3) := by decide +kernel
theorem dX2_profitIn_92 : decode cX2_profitIn 92 = .ok (.goto (-85), 3) := by decide +kernel
theorem dX2_profitIn_95 : decode cX2_profitIn 95 = .ok (.iload 5, 2) := by decide +kernel
theorem dX2_profitIn_97 : decode cX2_profitIn 97 = .ok (.ireturn, 1) := by decide +kernel
set_option maxRecDepth 20000 in
theorem ggX2_plainValue_X5_sumUp : GoodIn wsX2_plainValue wsX5_sumUp := goodIn_r _ [13] (by decide +kernel) (by decide +kernel)
set_option maxRecDepth 20000 in
theorem gX2_plainValue_X5_sumUp_n37 : GoodIn wsX2_plainValue (wsX5_sumUp) := ggX2_plainValue_X5_sumUp
set_option maxRecDepth 20000 in
theorem ggX2_plainValue_X0_allows : GoodIn wsX2_plainValue wsX0_allows := goodIn_r _ [18, 19, 30, 31, 32, 33, 34, 35, 36, 37, 38, 39] (by decide +kernel) (by decide +kernel)
set_option maxRecDepth 20000 in
theorem gX2_plainValue_X0_allows : GoodIn wsX2_plainValue (wsV RX2 47 RX0 yX0_allows wsX0_allows) := goodIn_app (goodIn_of _ (by decide +kernel)) ggX2_plainValue_X0_allows
theorem dX2_plainValue_0 : decode cX2_plainValue 0 = .ok (.iconst 0, 1) := by decide +kernel
theorem dX2_plainValue_1 : decode cX2_plainValue 1 = .ok (.istore 5, 2) := by decide +kernel
theorem dX2_plainValue_3 : decode cX2_plainValue 3 = .ok (.iload 5, 2) := by decide +kernel
theorem dX2_plainValue_5 : decode cX2_plainValue 5 = .ok (.aload_n 2, 1) := by decide +kernel
theorem dX2_plainValue_6 : decode cX2_plainValue 6 = .ok (.getfield 34, 3) := by decide +kernel
theorem dX2_plainValue_9 : decode cX2_plainValue 9 = .ok (.if_icmp .ge 45, 3) := by decide +kernel
theorem dX2_plainValue_12 : decode cX2_plainValue 12 = .ok (.aload_n 2, 1) := by decide +kernel
theorem dX2_plainValue_13 : decode cX2_plainValue 13 = .ok (.getfield 28, 3) := by decide +kernel
theorem dX2_plainValue_16 : decode cX2_plainValue 16 = .ok (.iconst 2, 1) := by decide +kernel
theorem dX2_plainValue_17 : decode cX2_plainValue 17 = .ok (.aaload, 1) := by decide +kernel
theorem dX2_plainValue_18 : decode cX2_plainValue 18 = .ok (.iload 5, 2) := by decide +kernel
theorem dX2_plainValue_20 : decode cX2_plainValue 20 = .ok (.iaload, 1) := by decide +kernel
theorem dX2_plainValue_21 : decode cX2_plainValue 21 = .ok (.iload_n 3, 1) := by decide +kernel
theorem dX2_plainValue_22 : decode cX2_plainValue 22 = .ok (.isub, 1) := by decide +kernel
theorem dX2_plainValue_23 : decode cX2_plainValue 23 = .ok (.iconst 0, 1) := by decide +kernel
theorem dX2_plainValue_24 : decode cX2_plainValue 24 = .ok (.invokestatic 53, 3) := by decide +kernel
theorem dX2_plainValue_27 : decode cX2_plainValue 27 = .ok (.istore 6, 2) := by decide +kernel
theorem dX2_plainValue_29 : decode cX2_plainValue 29 = .ok (.aload_n 0, 1) := by decide +kernel
theorem dX2_plainValue_30 : decode cX2_plainValue 30 = .ok (.getfield 21, 3) := by decide +kernel
theorem dX2_plainValue_33 : decode cX2_plainValue 33 = .ok (.iload 5, 2) := by decide +kernel
theorem dX2_plainValue_35 : decode cX2_plainValue 35 = .ok (.aload_n 2, 1) := by decide +kernel
theorem dX2_plainValue_36 : decode cX2_plainValue 36 = .ok (.getfield 28, 3) := by decide +kernel
theorem dX2_plainValue_39 : decode cX2_plainValue 39 = .ok (.iconst 1, 1) := by decide +kernel
theorem dX2_plainValue_40 : decode cX2_plainValue 40 = .ok (.aaload, 1) := by decide +kernel
theorem dX2_plainValue_41 : decode cX2_plainValue 41 = .ok (.iload 5, 2) := by decide +kernel
theorem dX2_plainValue_43 : decode cX2_plainValue 43 = .ok (.iaload, 1) := by decide +kernel
theorem dX2_plainValue_44 : decode cX2_plainValue 44 = .ok (.iload 6, 2) := by decide +kernel
theorem dX2_plainValue_46 : decode cX2_plainValue 46 = .ok (.iadd, 1) := by decide +kernel
theorem dX2_plainValue_47 : decode cX2_plainValue 47 = .ok (.iastore, 1) := by decide +kernel
theorem dX2_plainValue_48 : decode cX2_plainValue 48 = .ok (.iinc 5 1, 3) := by decide +kernel
theorem dX2_plainValue_51 : decode cX2_plainValue 51 = .ok (.goto (-48), 3) := by decide +kernel
theorem dX2_plainValue_54 : decode cX2_plainValue 54 = .ok (.aload_n 0, 1) := by decide +kernel
theorem dX2_plainValue_55 : decode cX2_plainValue 55 = .ok (.getfield 9, 3) := by decide +kernel
theorem dX2_plainValue_58 : decode cX2_plainValue 58 = .ok (.aload_n 0, 1) := by decide +kernel
theorem dX2_plainValue_59 : decode cX2_plainValue 59 = .ok (.getfield 21, 3) := by decide +kernel
theorem dX2_plainValue_62 : decode cX2_plainValue 62 = .ok (.aload_n 2, 1) := by decide +kernel
theorem dX2_plainValue_63 : decode cX2_plainValue 63 = .ok (.getfield 34, 3) := by decide +kernel
theorem dX2_plainValue_66 : decode cX2_plainValue 66 = .ok (.invokestatic 37, 3) := by decide +kernel
theorem dX2_plainValue_69 : decode cX2_plainValue 69 = .ok (.iconst 0, 1) := by decide +kernel
theorem dX2_plainValue_70 : decode cX2_plainValue 70 = .ok (.istore 5, 2) := by decide +kernel
theorem dX2_plainValue_72 : decode cX2_plainValue 72 = .ok (.iconst 0, 1) := by decide +kernel
theorem dX2_plainValue_73 : decode cX2_plainValue 73 = .ok (.istore 6, 2) := by decide +kernel
theorem dX2_plainValue_75 : decode cX2_plainValue 75 = .ok (.iload 6, 2) := by decide +kernel
theorem dX2_plainValue_77 : decode cX2_plainValue 77 = .ok (.aload_n 1, 1) := by decide +kernel
theorem dX2_plainValue_78 : decode cX2_plainValue 78 = .ok (.getfield 59, 3) := by decide +kernel
theorem dX2_plainValue_81 : decode cX2_plainValue 81 = .ok (.if_icmp .ge 51, 3) := by decide +kernel
theorem dX2_plainValue_84 : decode cX2_plainValue 84 = .ok (.aload_n 0, 1) := by decide +kernel
theorem dX2_plainValue_85 : decode cX2_plainValue 85 = .ok (.getfield 9, 3) := by decide +kernel
theorem dX2_plainValue_88 : decode cX2_plainValue 88 = .ok (.iload 6, 2) := by decide +kernel
theorem dX2_plainValue_90 : decode cX2_plainValue 90 = .ok (.iaload, 1) := by decide +kernel
theorem dX2_plainValue_91 : decode cX2_plainValue 91 = .ok (.iload 4, 2) := by decide +kernel
theorem dX2_plainValue_93 : decode cX2_plainValue 93 = .ok (.if_icmp .gt 33, 3) := by decide +kernel
theorem dX2_plainValue_96 : decode cX2_plainValue 96 = .ok (.aload_n 1, 1) := by decide +kernel
theorem dX2_plainValue_97 : decode cX2_plainValue 97 = .ok (.getfield 62, 3) := by decide +kernel
theorem dX2_plainValue_100 : decode cX2_plainValue 100 = .ok (.iload 6, 2) := by decide +kernel
theorem dX2_plainValue_102 : decode cX2_plainValue 102 = .ok (.iaload, 1) := by decide +kernel
theorem dX2_plainValue_103 : decode cX2_plainValue 103 = .ok (.iload 5, 2) := by decide +kernel
theorem dX2_plainValue_105 : decode cX2_plainValue 105 = .ok (.if_icmp .le 21, 3) := by decide +kernel
theorem dX2_plainValue_108 : decode cX2_plainValue 108 = .ok (.aload_n 1, 1) := by decide +kernel
theorem dX2_plainValue_109 : decode cX2_plainValue 109 = .ok (.iload 6, 2) := by decide +kernel
theorem dX2_plainValue_111 : decode cX2_plainValue 111 = .ok (.invokevirtual 47, 3) := by decide +kernel
theorem dX2_plainValue_114 : decode cX2_plainValue 114 = .ok (.ifCond .eq 12, 3) := by decide +kernel
theorem dX2_plainValue_117 : decode cX2_plainValue 117 = .ok (.aload_n 1, 1) := by decide +kernel
theorem dX2_plainValue_118 : decode cX2_plainValue 118 = .ok (.getfield 62, 3) := by decide +kernel
theorem dX2_plainValue_121 : decode cX2_plainValue 121 = .ok (.iload 6, 2) := by decide +kernel
theorem dX2_plainValue_123 : decode cX2_plainValue 123 = .ok (.iaload, 1) := by decide +kernel
theorem dX2_plainValue_124 : decode cX2_plainValue 124 = .ok (.istore 5, 2) := by decide +kernel
theorem dX2_plainValue_126 : decode cX2_plainValue 126 = .ok (.iinc 6 1, 3) := by decide +kernel
theorem dX2_plainValue_129 : decode cX2_plainValue 129 = .ok (.goto (-54), 3) := by decide +kernel
theorem dX2_plainValue_132 : decode cX2_plainValue 132 = .ok (.iload 5, 2) := by decide +kernel
theorem dX2_plainValue_134 : decode cX2_plainValue 134 = .ok (.ireturn, 1) := by decide +kernel
theorem dX3_init_0 : decode cX3_init 0 = .ok (.aload_n 0, 1) := by decide +kernel
theorem dX3_init_1 : decode cX3_init 1 = .ok (.invokespecial 3, 3) := by decide +kernel
theorem dX3_init_4 : decode cX3_init 4 = .ok (.aload_n 0, 1) := by decide +kernel
theorem dX3_init_5 : decode cX3_init 5 = .ok (.sipush 10000, 3) := by decide +kernel
theorem dX3_init_8 : decode cX3_init 8 = .ok (.newarray .int, 2) := by decide +kernel
theorem dX3_init_10 : decode cX3_init 10 = .ok (.putfield 9, 3) := by decide +kernel
theorem dX3_init_13 : decode cX3_init 13 = .ok (.aload_n 0, 1) := by decide +kernel
theorem dX3_init_14 : decode cX3_init 14 = .ok (.iconst 0, 1) := by decide +kernel
theorem dX3_init_15 : decode cX3_init 15 = .ok (.putfield 15, 3) := by decide +kernel
theorem dX3_init_18 : decode cX3_init 18 = .ok (.return_, 1) := by decide +kernel
set_option maxRecDepth 20000 in
theorem ggX3_buildFrontier_X3_clear : GoodIn wsX3_buildFrontier wsX3_clear := goodIn_r _ [8, 9, 10, 11, 12, 13, 44, 45] (by decide +kernel) (by decide +kernel)
set_option maxRecDepth 20000 in
theorem gX3_buildFrontier_X3_clear : GoodIn wsX3_buildFrontier (wsV RX3 27 RX3 yX3_clear wsX3_clear) := goodIn_app (goodIn_of _ (by decide +kernel)) ggX3_buildFrontier_X3_clear
set_option maxRecDepth 20000 in
theorem ggX3_buildFrontier_X0_stands : GoodIn wsX3_buildFrontier wsX0_stands := goodIn_r _ [18, 19, 20, 21, 22, 17, 23, 24, 34, 35, 36, 37, 38, 39, 40, 41, 42, 43] (by decide +kernel) (by decide +kernel)
set_option maxRecDepth 20000 in
theorem gX3_buildFrontier_X0_stands : GoodIn wsX3_buildFrontier (wsV RX3 31 RX0 yX0_stands wsX0_stands) := goodIn_app (goodIn_of _ (by decide +kernel)) ggX3_buildFrontier_X0_stands
set_option maxRecDepth 20000 in
theorem ggX3_buildFrontier_X3_offer : GoodIn wsX3_buildFrontier wsX3_offer := goodIn_r _ [28, 13, 44, 45] (by decide +kernel) (by decide +kernel)
set_option maxRecDepth 20000 in
theorem gX3_buildFrontier_X3_offer : GoodIn wsX3_buildFrontier (wsV RX3 38 RX3 yX3_offer wsX3_offer) := goodIn_app (goodIn_of _ (by decide +kernel)) ggX3_buildFrontier_X3_offer
set_option maxRecDepth 20000 in
theorem ggX3_buildFrontier_X3_keepRising : GoodIn wsX3_buildFrontier wsX3_keepRising := goodIn_r _ [32, 33, 13, 44, 45] (by decide +kernel) (by decide +kernel)
set_option maxRecDepth 20000 in
theorem gX3_buildFrontier_X3_keepRising : GoodIn wsX3_buildFrontier (wsV RX3 42 RX3 yX3_keepRising wsX3_keepRising) := goodIn_app (goodIn_of _ (by decide +kernel)) ggX3_buildFrontier_X3_keepRising
theorem dX3_buildFrontier_0 : decode cX3_buildFrontier 0 = .ok (.aload_n 0, 1) := by decide +kernel
theorem dX3_buildFrontier_1 : decode cX3_buildFrontier 1 = .ok (.aload_n 1, 1) := by decide +kernel
theorem dX3_buildFrontier_2 : decode cX3_buildFrontier 2 = .ok (.getfield 19, 3) := by decide +kernel
theorem dX3_buildFrontier_5 : decode cX3_buildFrontier 5 = .ok (.aload_n 1, 1) := by decide +kernel
theorem dX3_buildFrontier_6 : decode cX3_buildFrontier 6 = .ok (.getfield 24, 3) := by decide +kernel
theorem dX3_buildFrontier_9 : decode cX3_buildFrontier 9 = .ok (.iconst 1, 1) := by decide +kernel
theorem dX3_buildFrontier_10 : decode cX3_buildFrontier 10 = .ok (.isub, 1) := by decide +kernel
theorem dX3_buildFrontier_11 : decode cX3_buildFrontier 11 = .ok (.iaload, 1) := by decide +kernel
theorem dX3_buildFrontier_12 : decode cX3_buildFrontier 12 = .ok (.sipush 9999, 3) := by decide +kernel
theorem dX3_buildFrontier_15 : decode cX3_buildFrontier 15 = .ok (.invokevirtual 27, 3) := by decide +kernel
theorem dX3_buildFrontier_18 : decode cX3_buildFrontier 18 = .ok (.istore_n 2, 1) := by decide +kernel
theorem dX3_buildFrontier_19 : decode cX3_buildFrontier 19 = .ok (.iconst 0, 1) := by decide +kernel
theorem dX3_buildFrontier_20 : decode cX3_buildFrontier 20 = .ok (.istore_n 3, 1) := by decide +kernel
theorem dX3_buildFrontier_21 : decode cX3_buildFrontier 21 = .ok (.iload_n 3, 1) := by decide +kernel
theorem dX3_buildFrontier_22 : decode cX3_buildFrontier 22 = .ok (.aload_n 1, 1) := by decide +kernel
theorem dX3_buildFrontier_23 : decode cX3_buildFrontier 23 = .ok (.getfield 24, 3) := by decide +kernel
theorem dX3_buildFrontier_26 : decode cX3_buildFrontier 26 = .ok (.if_icmp .ge 33, 3) := by decide +kernel
theorem dX3_buildFrontier_29 : decode cX3_buildFrontier 29 = .ok (.aload_n 1, 1) := by decide +kernel
theorem dX3_buildFrontier_30 : decode cX3_buildFrontier 30 = .ok (.iload_n 3, 1) := by decide +kernel
theorem dX3_buildFrontier_31 : decode cX3_buildFrontier 31 = .ok (.iload_n 2, 1) := by decide +kernel
theorem dX3_buildFrontier_32 : decode cX3_buildFrontier 32 = .ok (.invokevirtual 31, 3) := by decide +kernel
theorem dX3_buildFrontier_35 : decode cX3_buildFrontier 35 = .ok (.ifCond .eq 18, 3) := by decide +kernel
theorem dX3_buildFrontier_38 : decode cX3_buildFrontier 38 = .ok (.aload_n 0, 1) := by decide +kernel
theorem dX3_buildFrontier_39 : decode cX3_buildFrontier 39 = .ok (.iload_n 3, 1) := by decide +kernel
theorem dX3_buildFrontier_40 : decode cX3_buildFrontier 40 = .ok (.aload_n 1, 1) := by decide +kernel
theorem dX3_buildFrontier_41 : decode cX3_buildFrontier 41 = .ok (.getfield 19, 3) := by decide +kernel
theorem dX3_buildFrontier_44 : decode cX3_buildFrontier 44 = .ok (.iload_n 3, 1) := by decide +kernel
theorem dX3_buildFrontier_45 : decode cX3_buildFrontier 45 = .ok (.iaload, 1) := by decide +kernel
theorem dX3_buildFrontier_46 : decode cX3_buildFrontier 46 = .ok (.aload_n 1, 1) := by decide +kernel
theorem dX3_buildFrontier_47 : decode cX3_buildFrontier 47 = .ok (.getfield 35, 3) := by decide +kernel
theorem dX3_buildFrontier_50 : decode cX3_buildFrontier 50 = .ok (.invokevirtual 38, 3) := by decide +kernel
theorem dX3_buildFrontier_53 : decode cX3_buildFrontier 53 = .ok (.iinc 3 1, 3) := by decide +kernel
theorem dX3_buildFrontier_56 : decode cX3_buildFrontier 56 = .ok (.goto (-35), 3) := by decide +kernel
theorem dX3_buildFrontier_59 : decode cX3_buildFrontier 59 = .ok (.aload_n 0, 1) := by decide +kernel
theorem dX3_buildFrontier_60 : decode cX3_buildFrontier 60 = .ok (.iload_n 2, 1) := by decide +kernel
theorem dX3_buildFrontier_61 : decode cX3_buildFrontier 61 = .ok (.aload_n 1, 1) := by decide +kernel
theorem dX3_buildFrontier_62 : decode cX3_buildFrontier 62 = .ok (.getfield 35, 3) := by decide +kernel
theorem dX3_buildFrontier_65 : decode cX3_buildFrontier 65 = .ok (.invokevirtual 42, 3) := by decide +kernel
theorem dX3_buildFrontier_68 : decode cX3_buildFrontier 68 = .ok (.return_, 1) := by decide +kernel
set_option maxRecDepth 20000 in
theorem ggX3_buildList_X3_clear : GoodIn wsX3_buildList wsX3_clear := goodIn_r _ [7, 8, 9, 10, 11, 12, 32, 33] (by decide +kernel) (by decide +kernel)
set_option maxRecDepth 20000 in
theorem gX3_buildList_X3_clear : GoodIn wsX3_buildList (wsV RX3 27 RX3 yX3_clear wsX3_clear) := goodIn_app (goodIn_of _ (by decide +kernel)) ggX3_buildList_X3_clear
set_option maxRecDepth 20000 in
theorem ggX3_buildList_X3_offer : GoodIn wsX3_buildList wsX3_offer := goodIn_r _ [16, 12, 32, 33] (by decide +kernel) (by decide +kernel)
set_option maxRecDepth 20000 in
theorem gX3_buildList_X3_offer : GoodIn wsX3_buildList (wsV RX3 38 RX3 yX3_offer wsX3_offer) := goodIn_app (goodIn_of _ (by decide +kernel)) ggX3_buildList_X3_offer
set_option maxRecDepth 20000 in
theorem ggX3_buildList_X3_keepRising : GoodIn wsX3_buildList wsX3_keepRising := goodIn_r _ [20, 21, 12, 32, 33] (by decide +kernel) (by decide +kernel)
set_option maxRecDepth 20000 in
theorem gX3_buildList_X3_keepRising : GoodIn wsX3_buildList (wsV RX3 42 RX3 yX3_keepRising wsX3_keepRising) := goodIn_app (goodIn_of _ (by decide +kernel)) ggX3_buildList_X3_keepRising
theorem dX3_buildList_0 : decode cX3_buildList 0 = .ok (.iconst 1, 1) := by decide +kernel
theorem dX3_buildList_1 : decode cX3_buildList 1 = .ok (.iload_n 2, 1) := by decide +kernel
theorem dX3_buildList_2 : decode cX3_buildList 2 = .ok (.ishl, 1) := by decide +kernel
theorem dX3_buildList_3 : decode cX3_buildList 3 = .ok (.istore 4, 2) := by decide +kernel
theorem dX3_buildList_5 : decode cX3_buildList 5 = .ok (.aload_n 0, 1) := by decide +kernel
theorem dX3_buildList_6 : decode cX3_buildList 6 = .ok (.aload_n 1, 1) := by decide +kernel
theorem dX3_buildList_7 : decode cX3_buildList 7 = .ok (.getfield 19, 3) := by decide +kernel
theorem dX3_buildList_10 : decode cX3_buildList 10 = .ok (.iload 4, 2) := by decide +kernel
theorem dX3_buildList_12 : decode cX3_buildList 12 = .ok (.iconst 1, 1) := by decide +kernel
theorem dX3_buildList_13 : decode cX3_buildList 13 = .ok (.isub, 1) := by decide +kernel
theorem dX3_buildList_14 : decode cX3_buildList 14 = .ok (.iaload, 1) := by decide +kernel
theorem dX3_buildList_15 : decode cX3_buildList 15 = .ok (.iload_n 3, 1) := by decide +kernel
theorem dX3_buildList_16 : decode cX3_buildList 16 = .ok (.invokevirtual 27, 3) := by decide +kernel
theorem dX3_buildList_19 : decode cX3_buildList 19 = .ok (.istore 5, 2) := by decide +kernel
theorem dX3_buildList_21 : decode cX3_buildList 21 = .ok (.iconst 0, 1) := by decide +kernel
theorem dX3_buildList_22 : decode cX3_buildList 22 = .ok (.istore 6, 2) := by decide +kernel
theorem dX3_buildList_24 : decode cX3_buildList 24 = .ok (.iload 6, 2) := by decide +kernel
theorem dX3_buildList_26 : decode cX3_buildList 26 = .ok (.iload 4, 2) := by decide +kernel
theorem dX3_buildList_28 : decode cX3_buildList 28 = .ok (.if_icmp .ge 38, 3) := by decide +kernel
theorem dX3_buildList_31 : decode cX3_buildList 31 = .ok (.aload_n 1, 1) := by decide +kernel
theorem dX3_buildList_32 : decode cX3_buildList 32 = .ok (.getfield 19, 3) := by decide +kernel
theorem dX3_buildList_35 : decode cX3_buildList 35 = .ok (.iload 6, 2) := by decide +kernel
theorem dX3_buildList_37 : decode cX3_buildList 37 = .ok (.iaload, 1) := by decide +kernel
theorem dX3_buildList_38 : decode cX3_buildList 38 = .ok (.iload 5, 2) := by decide +kernel
theorem dX3_buildList_40 : decode cX3_buildList 40 = .ok (.if_icmp .gt 20, 3) := by decide +kernel
theorem dX3_buildList_43 : decode cX3_buildList 43 = .ok (.aload_n 0, 1) := by decide +kernel
theorem dX3_buildList_44 : decode cX3_buildList 44 = .ok (.iload 6, 2) := by decide +kernel
theorem dX3_buildList_46 : decode cX3_buildList 46 = .ok (.aload_n 1, 1) := by decide +kernel
theorem dX3_buildList_47 : decode cX3_buildList 47 = .ok (.getfield 19, 3) := by decide +kernel
theorem dX3_buildList_50 : decode cX3_buildList 50 = .ok (.iload 6, 2) := by decide +kernel
theorem dX3_buildList_52 : decode cX3_buildList 52 = .ok (.iaload, 1) := by decide +kernel
theorem dX3_buildList_53 : decode cX3_buildList 53 = .ok (.aload_n 1, 1) := by decide +kernel
theorem dX3_buildList_54 : decode cX3_buildList 54 = .ok (.getfield 46, 3) := by decide +kernel
theorem dX3_buildList_57 : decode cX3_buildList 57 = .ok (.invokevirtual 38, 3) := by decide +kernel
theorem dX3_buildList_60 : decode cX3_buildList 60 = .ok (.iinc 6 1, 3) := by decide +kernel
theorem dX3_buildList_63 : decode cX3_buildList 63 = .ok (.goto (-39), 3) := by decide +kernel
theorem dX3_buildList_66 : decode cX3_buildList 66 = .ok (.aload_n 0, 1) := by decide +kernel
theorem dX3_buildList_67 : decode cX3_buildList 67 = .ok (.iload 5, 2) := by decide +kernel
theorem dX3_buildList_69 : decode cX3_buildList 69 = .ok (.aload_n 1, 1) := by decide +kernel
theorem dX3_buildList_70 : decode cX3_buildList 70 = .ok (.getfield 46, 3) := by decide +kernel
theorem dX3_buildList_73 : decode cX3_buildList 73 = .ok (.invokevirtual 42, 3) := by decide +kernel
theorem dX3_buildList_76 : decode cX3_buildList 76 = .ok (.return_, 1) := by decide +kernel
theorem dX3_clear_0 : decode cX3_clear 0 = .ok (.iload_n 1, 1) := by decide +kernel
theorem dX3_clear_1 : decode cX3_clear 1 = .ok (.iload_n 2, 1) := by decide +kernel
theorem dX3_clear_2 : decode cX3_clear 2 = .ok (.invokestatic 49, 3) := by decide +kernel
theorem dX3_clear_5 : decode cX3_clear 5 = .ok (.sipush 9999, 3) := by decide +kernel
theorem dX3_clear_8 : decode cX3_clear 8 = .ok (.invokestatic 49, 3) := by decide +kernel
theorem dX3_clear_11 : decode cX3_clear 11 = .ok (.istore_n 3, 1) := by decide +kernel
theorem dX3_clear_12 : decode cX3_clear 12 = .ok (.iconst 0, 1) := by decide +kernel
theorem dX3_clear_13 : decode cX3_clear 13 = .ok (.istore 4, 2) := by decide +kernel
theorem dX3_clear_15 : decode cX3_clear 15 = .ok (.iload 4, 2) := by decide +kernel
theorem dX3_clear_17 : decode cX3_clear 17 = .ok (.iload_n 3, 1) := by decide +kernel
theorem dX3_clear_18 : decode cX3_clear 18 = .ok (.if_icmp .gt 17, 3) := by decide +kernel
theorem dX3_clear_21 : decode cX3_clear 21 = .ok (.aload_n 0, 1) := by decide +kernel
theorem dX3_clear_22 : decode cX3_clear 22 = .ok (.getfield 9, 3) := by decide +kernel
theorem dX3_clear_25 : decode cX3_clear 25 = .ok (.iload 4, 2) := by decide +kernel
theorem dX3_clear_27 : decode cX3_clear 27 = .ok (.iconst (-1), 1) := by decide +kernel
theorem dX3_clear_28 : decode cX3_clear 28 = .ok (.iastore, 1) := by decide +kernel
theorem dX3_clear_29 : decode cX3_clear 29 = .ok (.iinc 4 1, 3) := by decide +kernel
theorem dX3_clear_32 : decode cX3_clear 32 = .ok (.goto (-17), 3) := by decide +kernel
theorem dX3_clear_35 : decode cX3_clear 35 = .ok (.iload_n 3, 1) := by decide +kernel
theorem dX3_clear_36 : decode cX3_clear 36 = .ok (.ireturn, 1) := by decide +kernel
theorem dX3_offer_0 : decode cX3_offer 0 = .ok (.aload_n 0, 1) := by decide +kernel
theorem dX3_offer_1 : decode cX3_offer 1 = .ok (.getfield 9, 3) := by decide +kernel
theorem dX3_offer_4 : decode cX3_offer 4 = .ok (.iload_n 2, 1) := by decide +kernel
theorem dX3_offer_5 : decode cX3_offer 5 = .ok (.iaload, 1) := by decide +kernel
theorem dX3_offer_6 : decode cX3_offer 6 = .ok (.ifCond .lt 17, 3) := by decide +kernel
theorem dX3_offer_9 : decode cX3_offer 9 = .ok (.aload_n 3, 1) := by decide +kernel
theorem dX3_offer_10 : decode cX3_offer 10 = .ok (.iload_n 1, 1) := by decide +kernel
theorem dX3_offer_11 : decode cX3_offer 11 = .ok (.iaload, 1) := by decide +kernel
theorem dX3_offer_12 : decode cX3_offer 12 = .ok (.aload_n 3, 1) := by decide +kernel
theorem dX3_offer_13 : decode cX3_offer 13 = .ok (.aload_n 0, 1) := by decide +kernel
theorem dX3_offer_14 : decode cX3_offer 14 = .ok (.getfield 9, 3) := by decide +kernel
theorem dX3_offer_17 : decode cX3_offer 17 = .ok (.iload_n 2, 1) := by decide +kernel
theorem dX3_offer_18 : decode cX3_offer 18 = .ok (.iaload, 1) := by decide +kernel
theorem dX3_offer_19 : decode cX3_offer 19 = .ok (.iaload, 1) := by decide +kernel
theorem dX3_offer_20 : decode cX3_offer 20 = .ok (.if_icmp .le 10, 3) := by decide +kernel
theorem dX3_offer_23 : decode cX3_offer 23 = .ok (.aload_n 0, 1) := by decide +kernel
theorem dX3_offer_24 : decode cX3_offer 24 = .ok (.getfield 9, 3) := by decide +kernel
theorem dX3_offer_27 : decode cX3_offer 27 = .ok (.iload_n 2, 1) := by decide +kernel
theorem dX3_offer_28 : decode cX3_offer 28 = .ok (.iload_n 1, 1) := by decide +kernel
theorem dX3_offer_29 : decode cX3_offer 29 = .ok (.iastore, 1) := by decide +kernel
theorem dX3_offer_30 : decode cX3_offer 30 = .ok (.return_, 1) := by decide +kernel
theorem dX3_keepRising_0 : decode cX3_keepRising 0 = .ok (.aload_n 0, 1) := by decide +kernel
theorem dX3_keepRising_1 : decode cX3_keepRising 1 = .ok (.iconst 0, 1) := by decide +kernel
theorem dX3_keepRising_2 : decode cX3_keepRising 2 = .ok (.putfield 15, 3) := by decide +kernel
theorem dX3_keepRising_5 : decode cX3_keepRising 5 = .ok (.iconst 0, 1) := by decide +kernel
theorem dX3_keepRising_6 : decode cX3_keepRising 6 = .ok (.istore_n 3, 1) := by decide +kernel
theorem dX3_keepRising_7 : decode cX3_keepRising 7 = .ok (.iload_n 3, 1) := by decide +kernel
theorem dX3_keepRising_8 : decode cX3_keepRising 8 = .ok (.iload_n 1, 1) := by decide +kernel
theorem dX3_keepRising_9 : decode cX3_keepRising 9 = .ok (.if_icmp .gt 70, 3) := by decide +kernel
theorem dX3_keepRising_12 : decode cX3_keepRising 12 = .ok (.aload_n 0, 1) := by decide +kernel
theorem dX3_keepRising_13 : decode cX3_keepRising 13 = .ok (.getfield 9, 3) := by decide +kernel
theorem dX3_keepRising_16 : decode cX3_keepRising 16 = .ok (.iload_n 3, 1) := by decide +kernel
theorem dX3_keepRising_17 : decode cX3_keepRising 17 = .ok (.iaload, 1) := by decide +kernel
theorem dX3_keepRising_18 : decode cX3_keepRising 18 = .ok (.istore 4, 2) := by decide +kernel
theorem dX3_keepRising_20 : decode cX3_keepRising 20 = .ok (.iload 4, 2) := by decide +kernel
theorem dX3_keepRising_22 : decode cX3_keepRising 22 = .ok (.ifCond .lt 51, 3) := by decide +kernel
theorem dX3_keepRising_25 : decode cX3_keepRising 25 = .ok (.aload_n 0, 1) := by decide +kernel
theorem dX3_keepRising_26 : decode cX3_keepRising 26 = .ok (.getfield 15, 3) := by decide +kernel
theorem dX3_keepRising_29 : decode cX3_keepRising 29 = .ok (.ifCond .eq 23, 3) := by decide +kernel
theorem dX3_keepRising_32 : decode cX3_keepRising 32 = .ok (.aload_n 2, 1) := by decide +kernel
theorem dX3_keepRising_33 : decode cX3_keepRising 33 = .ok (.iload 4, 2) := by decide +kernel
theorem dX3_keepRising_35 : decode cX3_keepRising 35 = .ok (.iaload, 1) := by decide +kernel
theorem dX3_keepRising_36 : decode cX3_keepRising 36 = .ok (.aload_n 2, 1) := by decide +kernel
theorem dX3_keepRising_37 : decode cX3_keepRising 37 = .ok (.aload_n 0, 1) := by decide +kernel
theorem dX3_keepRising_38 : decode cX3_keepRising 38 = .ok (.getfield 9, 3) := by decide +kernel
theorem dX3_keepRising_41 : decode cX3_keepRising 41 = .ok (.aload_n 0, 1) := by decide +kernel
theorem dX3_keepRising_42 : decode cX3_keepRising 42 = .ok (.getfield 15, 3) := by decide +kernel
theorem dX3_keepRising_45 : decode cX3_keepRising 45 = .ok (.iconst 1, 1) := by decide +kernel
theorem dX3_keepRising_46 : decode cX3_keepRising 46 = .ok (.isub, 1) := by decide +kernel
theorem dX3_keepRising_47 : decode cX3_keepRising 47 = .ok (.iaload, 1) := by decide +kernel
theorem dX3_keepRising_48 : decode cX3_keepRising 48 = .ok (.iaload, 1) := by decide +kernel
theorem dX3_keepRising_49 : decode cX3_keepRising 49 = .ok (.if_icmp .le 24, 3) := by decide +kernel
theorem dX3_keepRising_52 : decode cX3_keepRising 52 = .ok (.aload_n 0, 1) := by decide +kernel
theorem dX3_keepRising_53 : decode cX3_keepRising 53 = .ok (.getfield 9, 3) := by decide +kernel
theorem dX3_keepRising_56 : decode cX3_keepRising 56 = .ok (.aload_n 0, 1) := by decide +kernel
theorem dX3_keepRising_57 : decode cX3_keepRising 57 = .ok (.getfield 15, 3) := by decide +kernel
theorem dX3_keepRising_60 : decode cX3_keepRising 60 = .ok (.iload 4, 2) := by decide +kernel
theorem dX3_keepRising_62 : decode cX3_keepRising 62 = .ok (.iastore, 1) := by decide +kernel
theorem dX3_keepRising_63 : decode cX3_keepRising 63 = .ok (.aload_n 0, 1) := by decide +kernel
theorem dX3_keepRising_64 : decode cX3_keepRising 64 = .ok (.dup, 1) := by decide +kernel
theorem dX3_keepRising_65 : decode cX3_keepRising 65 = .ok (.getfield 15, 3) := by decide +kernel
theorem dX3_keepRising_68 : decode cX3_keepRising 68 = .ok (.iconst 1, 1) := by decide +kernel
theorem dX3_keepRising_69 : decode cX3_keepRising 69 = .ok (.iadd, 1) := by decide +kernel
theorem dX3_keepRising_70 : decode cX3_keepRising 70 = .ok (.putfield 15, 3) := by decide +kernel
theorem dX3_keepRising_73 : decode cX3_keepRising 73 = .ok (.iinc 3 1, 3) := by decide +kernel
theorem dX3_keepRising_76 : decode cX3_keepRising 76 = .ok (.goto (-69), 3) := by decide +kernel
theorem dX3_keepRising_79 : decode cX3_keepRising 79 = .ok (.return_, 1) := by decide +kernel
theorem dX3_stepAt_0 : decode cX3_stepAt 0 = .ok (.iload_n 1, 1) := by decide +kernel
theorem dX3_stepAt_1 : decode cX3_stepAt 1 = .ok (.ifCond .lt 20, 3) := by decide +kernel
theorem dX3_stepAt_4 : decode cX3_stepAt 4 = .ok (.iload_n 1, 1) := by decide +kernel
theorem dX3_stepAt_5 : decode cX3_stepAt 5 = .ok (.aload_n 0, 1) := by decide +kernel
theorem dX3_stepAt_6 : decode cX3_stepAt 6 = .ok (.getfield 15, 3) := by decide +kernel
theorem dX3_stepAt_9 : decode cX3_stepAt 9 = .ok (.if_icmp .ge 12, 3) := by decide +kernel
theorem dX3_stepAt_12 : decode cX3_stepAt 12 = .ok (.aload_n 0, 1) := by decide +kernel
theorem dX3_stepAt_13 : decode cX3_stepAt 13 = .ok (.getfield 9, 3) := by decide +kernel
theorem dX3_stepAt_16 : decode cX3_stepAt 16 = .ok (.iload_n 1, 1) := by decide +kernel
theorem dX3_stepAt_17 : decode cX3_stepAt 17 = .ok (.iaload, 1) := by decide +kernel
theorem dX3_stepAt_18 : decode cX3_stepAt 18 = .ok (.goto 5, 3) := by decide +kernel
theorem dX3_stepAt_21 : decode cX3_stepAt 21 = .ok (.bipush (-6), 2) := by decide +kernel
theorem dX3_stepAt_23 : decode cX3_stepAt 23 = .ok (.ireturn, 1) := by decide +kernel
theorem dX3_firstWith_0 : decode cX3_firstWith 0 = .ok (.iconst 0, 1) := by decide +kernel
theorem dX3_firstWith_1 : decode cX3_firstWith 1 = .ok (.istore_n 3, 1) := by decide +kernel
theorem dX3_firstWith_2 : decode cX3_firstWith 2 = .ok (.iload_n 3, 1) := by decide +kernel
theorem dX3_firstWith_3 : decode cX3_firstWith 3 = .ok (.aload_n 0, 1) := by decide +kernel
theorem dX3_firstWith_4 : decode cX3_firstWith 4 = .ok (.getfield 15, 3) := by decide +kernel
theorem dX3_firstWith_7 : decode cX3_firstWith 7 = .ok (.if_icmp .ge 28, 3) := by decide +kernel
theorem dX3_firstWith_10 : decode cX3_firstWith 10 = .ok (.aload_n 1, 1) := by decide +kernel
theorem dX3_firstWith_11 : decode cX3_firstWith 11 = .ok (.aload_n 0, 1) := by decide +kernel
theorem dX3_firstWith_12 : decode cX3_firstWith 12 = .ok (.getfield 9, 3) := by decide +kernel
theorem dX3_firstWith_15 : decode cX3_firstWith 15 = .ok (.iload_n 3, 1) := by decide +kernel
theorem dX3_firstWith_16 : decode cX3_firstWith 16 = .ok (.iaload, 1) := by decide +kernel
theorem dX3_firstWith_17 : decode cX3_firstWith 17 = .ok (.iaload, 1) := by decide +kernel
theorem dX3_firstWith_18 : decode cX3_firstWith 18 = .ok (.iload_n 2, 1) := by decide +kernel
theorem dX3_firstWith_19 : decode cX3_firstWith 19 = .ok (.if_icmp .lt 10, 3) := by decide +kernel
theorem dX3_firstWith_22 : decode cX3_firstWith 22 = .ok (.aload_n 0, 1) := by decide +kernel
theorem dX3_firstWith_23 : decode cX3_firstWith 23 = .ok (.getfield 9, 3) := by decide +kernel
theorem dX3_firstWith_26 : decode cX3_firstWith 26 = .ok (.iload_n 3, 1) := by decide +kernel
theorem dX3_firstWith_27 : decode cX3_firstWith 27 = .ok (.iaload, 1) := by decide +kernel
theorem dX3_firstWith_28 : decode cX3_firstWith 28 = .ok (.ireturn, 1) := by decide +kernel
theorem dX3_firstWith_29 : decode cX3_firstWith 29 = .ok (.iinc 3 1, 3) := by decide +kernel
theorem dX3_firstWith_32 : decode cX3_firstWith 32 = .ok (.goto (-30), 3) := by decide +kernel
theorem dX3_firstWith_35 : decode cX3_firstWith 35 = .ok (.bipush (-6), 2) := by decide +kernel
theorem dX3_firstWith_37 : decode cX3_firstWith 37 = .ok (.ireturn, 1) := by decide +kernel
theorem dX4_init_0 : decode cX4_init 0 = .ok (.aload_n 0, 1) := by decide +kernel
theorem dX4_init_1 : decode cX4_init 1 = .ok (.invokespecial 3, 3) := by decide +kernel
theorem dX4_init_4 : decode cX4_init 4 = .ok (.aload_n 0, 1) := by decide +kernel
theorem dX4_init_5 : decode cX4_init 5 = .ok (.iconst 5, 1) := by decide +kernel
theorem dX4_init_6 : decode cX4_init 6 = .ok (.bipush 12, 2) := by decide +kernel
theorem dX4_init_8 : decode cX4_init 8 = .ok (.multianewarray 9 2, 4) := by decide +kernel
theorem dX4_init_12 : decode cX4_init 12 = .ok (.putfield 11, 3) := by decide +kernel
theorem dX4_init_15 : decode cX4_init 15 = .ok (.aload_n 0, 1) := by decide +kernel
theorem dX4_init_16 : decode cX4_init 16 = .ok (.bipush 12, 2) := by decide +kernel
theorem dX4_init_18 : decode cX4_init 18 = .ok (.newarray .int, 2) := by decide +kernel
theorem dX4_init_20 : decode cX4_init 20 = .ok (.putfield 16, 3) := by decide +kernel
theorem dX4_init_23 : decode cX4_init 23 = .ok (.aload_n 0, 1) := by decide +kernel
theorem dX4_init_24 : decode cX4_init 24 = .ok (.bipush 12, 2) := by decide +kernel
theorem dX4_init_26 : decode cX4_init 26 = .ok (.newarray .int, 2) := by decide +kernel
theorem dX4_init_28 : decode cX4_init 28 = .ok (.putfield 20, 3) := by decide +kernel
theorem dX4_init_31 : decode cX4_init 31 = .ok (.aload_n 0, 1) := by decide +kernel
theorem dX4_init_32 : decode cX4_init 32 = .ok (.iconst 3, 1) := by decide +kernel
theorem dX4_init_33 : decode cX4_init 33 = .ok (.newarray .int, 2) := by decide +kernel
theorem dX4_init_35 : decode cX4_init 35 = .ok (.putfield 23, 3) := by decide +kernel
theorem dX4_init_38 : decode cX4_init 38 = .ok (.aload_n 0, 1) := by decide +kernel
theorem dX4_init_39 : decode cX4_init 39 = .ok (.getfield 23, 3) := by decide +kernel
theorem dX4_init_42 : decode cX4_init 42 = .ok (.iconst 0, 1) := by decide +kernel
theorem dX4_init_43 : decode cX4_init 43 = .ok (.sipush 1000, 3) := by decide +kernel
theorem dX4_init_46 : decode cX4_init 46 = .ok (.iastore, 1) := by decide +kernel
theorem dX4_init_47 : decode cX4_init 47 = .ok (.aload_n 0, 1) := by decide +kernel
theorem dX4_init_48 : decode cX4_init 48 = .ok (.iconst 0, 1) := by decide +kernel
theorem dX4_init_49 : decode cX4_init 49 = .ok (.putfield 26, 3) := by decide +kernel
theorem dX4_init_52 : decode cX4_init 52 = .ok (.return_, 1) := by decide +kernel
theorem dX4_copyFrom_0 : decode cX4_copyFrom 0 = .ok (.iconst 0, 1) := by decide +kernel
theorem dX4_copyFrom_1 : decode cX4_copyFrom 1 = .ok (.istore_n 2, 1) := by decide +kernel
theorem dX4_copyFrom_2 : decode cX4_copyFrom 2 = .ok (.iload_n 2, 1) := by decide +kernel
theorem dX4_copyFrom_3 : decode cX4_copyFrom 3 = .ok (.iconst 5, 1) := by decide +kernel
theorem dX4_copyFrom_4 : decode cX4_copyFrom 4 = .ok (.if_icmp .ge 28, 3) := by decide +kernel
theorem dX4_copyFrom_7 : decode cX4_copyFrom 7 = .ok (.aload_n 1, 1) := by decide +kernel
theorem dX4_copyFrom_8 : decode cX4_copyFrom 8 = .ok (.getfield 11, 3) := by decide +kernel
theorem dX4_copyFrom_11 : decode cX4_copyFrom 11 = .ok (.iload_n 2, 1) := by decide +kernel
theorem dX4_copyFrom_12 : decode cX4_copyFrom 12 = .ok (.aaload, 1) := by decide +kernel
theorem dX4_copyFrom_13 : decode cX4_copyFrom 13 = .ok (.iconst 0, 1) := by decide +kernel
theorem dX4_copyFrom_14 : decode cX4_copyFrom 14 = .ok (.aload_n 0, 1) := by decide +kernel
theorem dX4_copyFrom_15 : decode cX4_copyFrom 15 = .ok (.getfield 11, 3) := by decide +kernel
theorem dX4_copyFrom_18 : decode cX4_copyFrom 18 = .ok (.iload_n 2, 1) := by decide +kernel
theorem dX4_copyFrom_19 : decode cX4_copyFrom 19 = .ok (.aaload, 1) := by decide +kernel
theorem dX4_copyFrom_20 : decode cX4_copyFrom 20 = .ok (.iconst 0, 1) := by decide +kernel
theorem dX4_copyFrom_21 : decode cX4_copyFrom 21 = .ok (.bipush 12, 2) := by decide +kernel
theorem dX4_copyFrom_23 : decode cX4_copyFrom 23 = .ok (.invokestatic 30, 3) := by decide +kernel
theorem dX4_copyFrom_26 : decode cX4_copyFrom 26 = .ok (.iinc 2 1, 3) := by decide +kernel
theorem dX4_copyFrom_29 : decode cX4_copyFrom 29 = .ok (.goto (-27), 3) := by decide +kernel
theorem dX4_copyFrom_32 : decode cX4_copyFrom 32 = .ok (.aload_n 1, 1) := by decide +kernel
theorem dX4_copyFrom_33 : decode cX4_copyFrom 33 = .ok (.getfield 16, 3) := by decide +kernel
theorem dX4_copyFrom_36 : decode cX4_copyFrom 36 = .ok (.iconst 0, 1) := by decide +kernel
theorem dX4_copyFrom_37 : decode cX4_copyFrom 37 = .ok (.aload_n 0, 1) := by decide +kernel
theorem dX4_copyFrom_38 : decode cX4_copyFrom 38 = .ok (.getfield 16, 3) := by decide +kernel
theorem dX4_copyFrom_41 : decode cX4_copyFrom 41 = .ok (.iconst 0, 1) := by decide +kernel
theorem dX4_copyFrom_42 : decode cX4_copyFrom 42 = .ok (.bipush 12, 2) := by decide +kernel
theorem dX4_copyFrom_44 : decode cX4_copyFrom 44 = .ok (.invokestatic 30, 3) := by decide +kernel
theorem dX4_copyFrom_47 : decode cX4_copyFrom 47 = .ok (.aload_n 1, 1) := by decide +kernel
theorem dX4_copyFrom_48 : decode cX4_copyFrom 48 = .ok (.getfield 20, 3) := by decide +kernel
theorem dX4_copyFrom_51 : decode cX4_copyFrom 51 = .ok (.iconst 0, 1) := by decide +kernel
theorem dX4_copyFrom_52 : decode cX4_copyFrom 52 = .ok (.aload_n 0, 1) := by decide +kernel
theorem dX4_copyFrom_53 : decode cX4_copyFrom 53 = .ok (.getfield 20, 3) := by decide +kernel
theorem dX4_copyFrom_56 : decode cX4_copyFrom 56 = .ok (.iconst 0, 1) := by decide +kernel
theorem dX4_copyFrom_57 : decode cX4_copyFrom 57 = .ok (.bipush 12, 2) := by decide +kernel
theorem dX4_copyFrom_59 : decode cX4_copyFrom 59 = .ok (.invokestatic 30, 3) := by decide +kernel
theorem dX4_copyFrom_62 : decode cX4_copyFrom 62 = .ok (.aload_n 1, 1) := by decide +kernel
theorem dX4_copyFrom_63 : decode cX4_copyFrom 63 = .ok (.getfield 23, 3) := by decide +kernel
theorem dX4_copyFrom_66 : decode cX4_copyFrom 66 = .ok (.iconst 0, 1) := by decide +kernel
theorem dX4_copyFrom_67 : decode cX4_copyFrom 67 = .ok (.aload_n 0, 1) := by decide +kernel
theorem dX4_copyFrom_68 : decode cX4_copyFrom 68 = .ok (.getfield 23, 3) := by decide +kernel
theorem dX4_copyFrom_71 : decode cX4_copyFrom 71 = .ok (.iconst 0, 1) := by decide +kernel
theorem dX4_copyFrom_72 : decode cX4_copyFrom 72 = .ok (.iconst 3, 1) := by decide +kernel
theorem dX4_copyFrom_73 : decode cX4_copyFrom 73 = .ok (.invokestatic 30, 3) := by decide +kernel
theorem dX4_copyFrom_76 : decode cX4_copyFrom 76 = .ok (.aload_n 0, 1) := by decide +kernel
theorem dX4_copyFrom_77 : decode cX4_copyFrom 77 = .ok (.aload_n 1, 1) := by decide +kernel
theorem dX4_copyFrom_78 : decode cX4_copyFrom 78 = .ok (.getfield 26, 3) := by decide +kernel
theorem dX4_copyFrom_81 : decode cX4_copyFrom 81 = .ok (.putfield 26, 3) := by decide +kernel
theorem dX4_copyFrom_84 : decode cX4_copyFrom 84 = .ok (.return_, 1) := by decide +kernel
theorem dX4_append_0 : decode cX4_append 0 = .ok (.aload_n 0, 1) := by decide +kernel
theorem dX4_append_1 : decode cX4_append 1 = .ok (.getfield 26, 3) := by decide +kernel
theorem dX4_append_4 : decode cX4_append 4 = .ok (.bipush 12, 2) := by decide +kernel
theorem dX4_append_6 : decode cX4_append 6 = .ok (.if_icmp .lt 4, 3) := by decide +kernel
theorem dX4_append_9 : decode cX4_append 9 = .ok (.return_, 1) := by decide +kernel
theorem dX4_append_10 : decode cX4_append 10 = .ok (.aload_n 0, 1) := by decide +kernel
theorem dX4_append_11 : decode cX4_append 11 = .ok (.getfield 11, 3) := by decide +kernel
theorem dX4_append_14 : decode cX4_append 14 = .ok (.iconst 0, 1) := by decide +kernel
theorem dX4_append_15 : decode cX4_append 15 = .ok (.aaload, 1) := by decide +kernel
theorem dX4_append_16 : decode cX4_append 16 = .ok (.aload_n 0, 1) := by decide +kernel
theorem dX4_append_17 : decode cX4_append 17 = .ok (.getfield 26, 3) := by decide +kernel
theorem dX4_append_20 : decode cX4_append 20 = .ok (.iload_n 1, 1) := by decide +kernel
theorem dX4_append_21 : decode cX4_append 21 = .ok (.iastore, 1) := by decide +kernel
theorem dX4_append_22 : decode cX4_append 22 = .ok (.aload_n 0, 1) := by decide +kernel
theorem dX4_append_23 : decode cX4_append 23 = .ok (.getfield 11, 3) := by decide +kernel
theorem dX4_append_26 : decode cX4_append 26 = .ok (.iconst 1, 1) := by decide +kernel
theorem dX4_append_27 : decode cX4_append 27 = .ok (.aaload, 1) := by decide +kernel
theorem dX4_append_28 : decode cX4_append 28 = .ok (.aload_n 0, 1) := by decide +kernel
theorem dX4_append_29 : decode cX4_append 29 = .ok (.getfield 26, 3) := by decide +kernel
theorem dX4_append_32 : decode cX4_append 32 = .ok (.iload_n 2, 1) := by decide +kernel
theorem dX4_append_33 : decode cX4_append 33 = .ok (.iastore, 1) := by decide +kernel
theorem dX4_append_34 : decode cX4_append 34 = .ok (.aload_n 0, 1) := by decide +kernel
theorem dX4_append_35 : decode cX4_append 35 = .ok (.getfield 11, 3) := by decide +kernel
theorem dX4_append_38 : decode cX4_append 38 = .ok (.iconst 2, 1) := by decide +kernel
theorem dX4_append_39 : decode cX4_append 39 = .ok (.aaload, 1) := by decide +kernel
theorem dX4_append_40 : decode cX4_append 40 = .ok (.aload_n 0, 1) := by decide +kernel
theorem dX4_append_41 : decode cX4_append 41 = .ok (.getfield 26, 3) := by decide +kernel
theorem dX4_append_44 : decode cX4_append 44 = .ok (.iload_n 3, 1) := by decide +kernel
theorem dX4_append_45 : decode cX4_append 45 = .ok (.iastore, 1) := by decide +kernel
theorem dX4_append_46 : decode cX4_append 46 = .ok (.aload_n 0, 1) := by decide +kernel
theorem dX4_append_47 : decode cX4_append 47 = .ok (.getfield 11, 3) := by decide +kernel
theorem dX4_append_50 : decode cX4_append 50 = .ok (.iconst 3, 1) := by decide +kernel
theorem dX4_append_51 : decode cX4_append 51 = .ok (.aaload, 1) := by decide +kernel
theorem dX4_append_52 : decode cX4_append 52 = .ok (.aload_n 0, 1) := by decide +kernel
theorem dX4_append_53 : decode cX4_append 53 = .ok (.getfield 26, 3) := by decide +kernel
theorem dX4_append_56 : decode cX4_append 56 = .ok (.iload 4, 2) := by decide +kernel
theorem dX4_append_58 : decode cX4_append 58 = .ok (.iastore, 1) := by decide +kernel
theorem dX4_append_59 : decode cX4_append 59 = .ok (.aload_n 0, 1) := by decide +kernel
theorem dX4_append_60 : decode cX4_append 60 = .ok (.getfield 11, 3) := by decide +kernel
theorem dX4_append_63 : decode cX4_append 63 = .ok (.iconst 4, 1) := by decide +kernel
theorem dX4_append_64 : decode cX4_append 64 = .ok (.aaload, 1) := by decide +kernel
theorem dX4_append_65 : decode cX4_append 65 = .ok (.aload_n 0, 1) := by decide +kernel
theorem dX4_append_66 : decode cX4_append 66 = .ok (.getfield 26, 3) := by decide +kernel
theorem dX4_append_69 : decode cX4_append 69 = .ok (.iload 5, 2) := by decide +kernel
theorem dX4_append_71 : decode cX4_append 71 = .ok (.iastore, 1) := by decide +kernel
theorem dX4_append_72 : decode cX4_append 72 = .ok (.aload_n 0, 1) := by decide +kernel
theorem dX4_append_73 : decode cX4_append 73 = .ok (.getfield 16, 3) := by decide +kernel
theorem dX4_append_76 : decode cX4_append 76 = .ok (.aload_n 0, 1) := by decide +kernel
theorem dX4_append_77 : decode cX4_append 77 = .ok (.getfield 26, 3) := by decide +kernel
theorem dX4_append_80 : decode cX4_append 80 = .ok (.iconst 0, 1) := by decide +kernel
theorem dX4_append_81 : decode cX4_append 81 = .ok (.iastore, 1) := by decide +kernel
theorem dX4_append_82 : decode cX4_append 82 = .ok (.aload_n 0, 1) := by decide +kernel
theorem dX4_append_83 : decode cX4_append 83 = .ok (.getfield 20, 3) := by decide +kernel
theorem dX4_append_86 : decode cX4_append 86 = .ok (.aload_n 0, 1) := by decide +kernel
theorem dX4_append_87 : decode cX4_append 87 = .ok (.getfield 26, 3) := by decide +kernel
theorem dX4_append_90 : decode cX4_append 90 = .ok (.iconst 0, 1) := by decide +kernel
theorem dX4_append_91 : decode cX4_append 91 = .ok (.iastore, 1) := by decide +kernel
theorem dX4_append_92 : decode cX4_append 92 = .ok (.aload_n 0, 1) := by decide +kernel
theorem dX4_append_93 : decode cX4_append 93 = .ok (.dup, 1) := by decide +kernel
theorem dX4_append_94 : decode cX4_append 94 = .ok (.getfield 26, 3) := by decide +kernel
theorem dX4_append_97 : decode cX4_append 97 = .ok (.iconst 1, 1) := by decide +kernel
theorem dX4_append_98 : decode cX4_append 98 = .ok (.iadd, 1) := by decide +kernel
theorem dX4_append_99 : decode cX4_append 99 = .ok (.putfield 26, 3) := by decide +kernel
theorem dX4_append_102 : decode cX4_append 102 = .ok (.return_, 1) := by decide +kernel
set_option maxRecDepth 20000 in
theorem ggX4_takeOut_X4_closeGap : GoodIn wsX4_takeOut wsX4_closeGap := goodIn_r _ [8] (by decide +kernel) (by decide +kernel)
set_option maxRecDepth 20000 in
theorem gX4_takeOut_X4_closeGap : GoodIn wsX4_takeOut (va_wsS RX4 36 yX4_closeGap wsX4_closeGap) := goodIn_app (goodIn_of _ (by decide +kernel)) ggX4_takeOut_X4_closeGap
theorem dX4_takeOut_0 : decode cX4_takeOut 0 = .ok (.iload_n 1, 1) := by decide +kernel
theorem dX4_takeOut_1 : decode cX4_takeOut 1 = .ok (.iconst 1, 1) := by decide +kernel
theorem dX4_takeOut_2 : decode cX4_takeOut 2 = .ok (.iadd, 1) := by decide +kernel
theorem dX4_takeOut_3 : decode cX4_takeOut 3 = .ok (.istore_n 2, 1) := by decide +kernel
theorem dX4_takeOut_4 : decode cX4_takeOut 4 = .ok (.iload_n 2, 1) := by decide +kernel
theorem dX4_takeOut_5 : decode cX4_takeOut 5 = .ok (.aload_n 0, 1) := by decide +kernel
theorem dX4_takeOut_6 : decode cX4_takeOut 6 = .ok (.getfield 26, 3) := by decide +kernel
theorem dX4_takeOut_9 : decode cX4_takeOut 9 = .ok (.if_icmp .ge 68, 3) := by decide +kernel
theorem dX4_takeOut_12 : decode cX4_takeOut 12 = .ok (.iconst 0, 1) := by decide +kernel
theorem dX4_takeOut_13 : decode cX4_takeOut 13 = .ok (.istore_n 3, 1) := by decide +kernel
theorem dX4_takeOut_14 : decode cX4_takeOut 14 = .ok (.iload_n 3, 1) := by decide +kernel
theorem dX4_takeOut_15 : decode cX4_takeOut 15 = .ok (.iconst 5, 1) := by decide +kernel
theorem dX4_takeOut_16 : decode cX4_takeOut 16 = .ok (.if_icmp .ge 27, 3) := by decide +kernel
theorem dX4_takeOut_19 : decode cX4_takeOut 19 = .ok (.aload_n 0, 1) := by decide +kernel
theorem dX4_takeOut_20 : decode cX4_takeOut 20 = .ok (.getfield 11, 3) := by decide +kernel
theorem dX4_takeOut_23 : decode cX4_takeOut 23 = .ok (.iload_n 3, 1) := by decide +kernel
theorem dX4_takeOut_24 : decode cX4_takeOut 24 = .ok (.aaload, 1) := by decide +kernel
theorem dX4_takeOut_25 : decode cX4_takeOut 25 = .ok (.iload_n 2, 1) := by decide +kernel
theorem dX4_takeOut_26 : decode cX4_takeOut 26 = .ok (.iconst 1, 1) := by decide +kernel
theorem dX4_takeOut_27 : decode cX4_takeOut 27 = .ok (.isub, 1) := by decide +kernel
theorem dX4_takeOut_28 : decode cX4_takeOut 28 = .ok (.aload_n 0, 1) := by decide +kernel
theorem dX4_takeOut_29 : decode cX4_takeOut 29 = .ok (.getfield 11, 3) := by decide +kernel
theorem dX4_takeOut_32 : decode cX4_takeOut 32 = .ok (.iload_n 3, 1) := by decide +kernel
theorem dX4_takeOut_33 : decode cX4_takeOut 33 = .ok (.aaload, 1) := by decide +kernel
theorem dX4_takeOut_34 : decode cX4_takeOut 34 = .ok (.iload_n 2, 1) := by decide +kernel
theorem dX4_takeOut_35 : decode cX4_takeOut 35 = .ok (.iaload, 1) := by decide +kernel
theorem dX4_takeOut_36 : decode cX4_takeOut 36 = .ok (.iastore, 1) := by decide +kernel
theorem dX4_takeOut_37 : decode cX4_takeOut 37 = .ok (.iinc 3 1, 3) := by decide +kernel
theorem dX4_takeOut_40 : decode cX4_takeOut 40 = .ok (.goto (-26), 3) := by decide +kernel
theorem dX4_takeOut_43 : decode cX4_takeOut 43 = .ok (.aload_n 0, 1) := by decide +kernel
theorem dX4_takeOut_44 : decode cX4_takeOut 44 = .ok (.getfield 16, 3) := by decide +kernel
theorem dX4_takeOut_47 : decode cX4_takeOut 47 = .ok (.iload_n 2, 1) := by decide +kernel
theorem dX4_takeOut_48 : decode cX4_takeOut 48 = .ok (.iconst 1, 1) := by decide +kernel
theorem dX4_takeOut_49 : decode cX4_takeOut 49 = .ok (.isub, 1) := by decide +kernel
theorem dX4_takeOut_50 : decode cX4_takeOut 50 = .ok (.aload_n 0, 1) := by decide +kernel
theorem dX4_takeOut_51 : decode cX4_takeOut 51 = .ok (.getfield 16, 3) := by decide +kernel
theorem dX4_takeOut_54 : decode cX4_takeOut 54 = .ok (.iload_n 2, 1) := by decide +kernel
theorem dX4_takeOut_55 : decode cX4_takeOut 55 = .ok (.iaload, 1) := by decide +kernel
theorem dX4_takeOut_56 : decode cX4_takeOut 56 = .ok (.iastore, 1) := by decide +kernel
theorem dX4_takeOut_57 : decode cX4_takeOut 57 = .ok (.aload_n 0, 1) := by decide +kernel
theorem dX4_takeOut_58 : decode cX4_takeOut 58 = .ok (.getfield 20, 3) := by decide +kernel
theorem dX4_takeOut_61 : decode cX4_takeOut 61 = .ok (.iload_n 2, 1) := by decide +kernel
theorem dX4_takeOut_62 : decode cX4_takeOut 62 = .ok (.iconst 1, 1) := by decide +kernel
theorem dX4_takeOut_63 : decode cX4_takeOut 63 = .ok (.isub, 1) := by decide +kernel
theorem dX4_takeOut_64 : decode cX4_takeOut 64 = .ok (.aload_n 0, 1) := by decide +kernel
theorem dX4_takeOut_65 : decode cX4_takeOut 65 = .ok (.getfield 20, 3) := by decide +kernel
theorem dX4_takeOut_68 : decode cX4_takeOut 68 = .ok (.iload_n 2, 1) := by decide +kernel
theorem dX4_takeOut_69 : decode cX4_takeOut 69 = .ok (.iaload, 1) := by decide +kernel
theorem dX4_takeOut_70 : decode cX4_takeOut 70 = .ok (.iastore, 1) := by decide +kernel
theorem dX4_takeOut_71 : decode cX4_takeOut 71 = .ok (.iinc 2 1, 3) := by decide +kernel
theorem dX4_takeOut_74 : decode cX4_takeOut 74 = .ok (.goto (-70), 3) := by decide +kernel
theorem dX4_takeOut_77 : decode cX4_takeOut 77 = .ok (.aload_n 0, 1) := by decide +kernel
theorem dX4_takeOut_78 : decode cX4_takeOut 78 = .ok (.dup, 1) := by decide +kernel
theorem dX4_takeOut_79 : decode cX4_takeOut 79 = .ok (.getfield 26, 3) := by decide +kernel
theorem dX4_takeOut_82 : decode cX4_takeOut 82 = .ok (.iconst 1, 1) := by decide +kernel
theorem dX4_takeOut_83 : decode cX4_takeOut 83 = .ok (.isub, 1) := by decide +kernel
theorem dX4_takeOut_84 : decode cX4_takeOut 84 = .ok (.putfield 26, 3) := by decide +kernel
theorem dX4_takeOut_87 : decode cX4_takeOut 87 = .ok (.iconst 0, 1) := by decide +kernel
theorem dX4_takeOut_88 : decode cX4_takeOut 88 = .ok (.istore_n 2, 1) := by decide +kernel
theorem dX4_takeOut_89 : decode cX4_takeOut 89 = .ok (.iload_n 2, 1) := by decide +kernel
theorem dX4_takeOut_90 : decode cX4_takeOut 90 = .ok (.aload_n 0, 1) := by decide +kernel
theorem dX4_takeOut_91 : decode cX4_takeOut 91 = .ok (.getfield 26, 3) := by decide +kernel
theorem dX4_takeOut_94 : decode cX4_takeOut 94 = .ok (.if_icmp .ge 41, 3) := by decide +kernel
theorem dX4_takeOut_97 : decode cX4_takeOut 97 = .ok (.aload_n 0, 1) := by decide +kernel
theorem dX4_takeOut_98 : decode cX4_takeOut 98 = .ok (.getfield 16, 3) := by decide +kernel
theorem dX4_takeOut_101 : decode cX4_takeOut 101 = .ok (.iload_n 2, 1) := by decide +kernel
theorem dX4_takeOut_102 : decode cX4_takeOut 102 = .ok (.aload_n 0, 1) := by decide +kernel
theorem dX4_takeOut_103 : decode cX4_takeOut 103 = .ok (.getfield 16, 3) := by decide +kernel
theorem dX4_takeOut_106 : decode cX4_takeOut 106 = .ok (.iload_n 2, 1) := by decide +kernel
theorem dX4_takeOut_107 : decode cX4_takeOut 107 = .ok (.iaload, 1) := by decide +kernel
theorem dX4_takeOut_108 : decode cX4_takeOut 108 = .ok (.iload_n 1, 1) := by decide +kernel
theorem dX4_takeOut_109 : decode cX4_takeOut 109 = .ok (.invokestatic 36, 3) := by decide +kernel
theorem dX4_takeOut_112 : decode cX4_takeOut 112 = .ok (.iastore, 1) := by decide +kernel
theorem dX4_takeOut_113 : decode cX4_takeOut 113 = .ok (.aload_n 0, 1) := by decide +kernel
theorem dX4_takeOut_114 : decode cX4_takeOut 114 = .ok (.getfield 20, 3) := by decide +kernel
theorem dX4_takeOut_117 : decode cX4_takeOut 117 = .ok (.iload_n 2, 1) := by decide +kernel
theorem dX4_takeOut_118 : decode cX4_takeOut 118 = .ok (.aload_n 0, 1) := by decide +kernel
theorem dX4_takeOut_119 : decode cX4_takeOut 119 = .ok (.getfield 20, 3) := by decide +kernel
theorem dX4_takeOut_122 : decode cX4_takeOut 122 = .ok (.iload_n 2, 1) := by decide +kernel
theorem dX4_takeOut_123 : decode cX4_takeOut 123 = .ok (.iaload, 1) := by decide +kernel
theorem dX4_takeOut_124 : decode cX4_takeOut 124 = .ok (.iload_n 1, 1) := by decide +kernel
theorem dX4_takeOut_125 : decode cX4_takeOut 125 = .ok (.invokestatic 36, 3) := by decide +kernel
theorem dX4_takeOut_128 : decode cX4_takeOut 128 = .ok (.iastore, 1) := by decide +kernel
theorem dX4_takeOut_129 : decode cX4_takeOut 129 = .ok (.iinc 2 1, 3) := by decide +kernel
theorem dX4_takeOut_132 : decode cX4_takeOut 132 = .ok (.goto (-43), 3) := by decide +kernel
theorem dX4_takeOut_135 : decode cX4_takeOut 135 = .ok (.return_, 1) := by decide +kernel
theorem dX4_closeGap_0 : decode cX4_closeGap 0 = .ok (.iconst 1, 1) := by decide +kernel
theorem dX4_closeGap_1 : decode cX4_closeGap 1 = .ok (.iload_n 1, 1) := by decide +kernel
theorem dX4_closeGap_2 : decode cX4_closeGap 2 = .ok (.ishl, 1) := by decide +kernel
theorem dX4_closeGap_3 : decode cX4_closeGap 3 = .ok (.iconst 1, 1) := by decide +kernel
theorem dX4_closeGap_4 : decode cX4_closeGap 4 = .ok (.isub, 1) := by decide +kernel
theorem dX4_closeGap_5 : decode cX4_closeGap 5 = .ok (.istore_n 2, 1) := by decide +kernel
theorem dX4_closeGap_6 : decode cX4_closeGap 6 = .ok (.iload_n 0, 1) := by decide +kernel
theorem dX4_closeGap_7 : decode cX4_closeGap 7 = .ok (.iload_n 2, 1) := by decide +kernel
theorem dX4_closeGap_8 : decode cX4_closeGap 8 = .ok (.iand, 1) := by decide +kernel
theorem dX4_closeGap_9 : decode cX4_closeGap 9 = .ok (.iload_n 0, 1) := by decide +kernel
theorem dX4_closeGap_10 : decode cX4_closeGap 10 = .ok (.iconst 1, 1) := by decide +kernel
theorem dX4_closeGap_11 : decode cX4_closeGap 11 = .ok (.ishr, 1) := by decide +kernel
theorem dX4_closeGap_12 : decode cX4_closeGap 12 = .ok (.iload_n 2, 1) := by decide +kernel
theorem dX4_closeGap_13 : decode cX4_closeGap 13 = .ok (.iconst (-1), 1) := by decide +kernel
theorem dX4_closeGap_14 : decode cX4_closeGap 14 = .ok (.ixor, 1) := by decide +kernel
theorem dX4_closeGap_15 : decode cX4_closeGap 15 = .ok (.iand, 1) := by decide +kernel
theorem dX4_closeGap_16 : decode cX4_closeGap 16 = .ok (.ior, 1) := by decide +kernel
theorem dX4_closeGap_17 : decode cX4_closeGap 17 = .ok (.ireturn, 1) := by decide +kernel
theorem dX4_neededBy_0 : decode cX4_neededBy 0 = .ok (.iconst 0, 1) := by decide +kernel
theorem dX4_neededBy_1 : decode cX4_neededBy 1 = .ok (.istore_n 2, 1) := by decide +kernel
theorem dX4_neededBy_2 : decode cX4_neededBy 2 = .ok (.iconst 0, 1) := by decide +kernel
theorem dX4_neededBy_3 : decode cX4_neededBy 3 = .ok (.istore_n 3, 1) := by decide +kernel
theorem dX4_neededBy_4 : decode cX4_neededBy 4 = .ok (.iload_n 3, 1) := by decide +kernel
theorem dX4_neededBy_5 : decode cX4_neededBy 5 = .ok (.aload_n 0, 1) := by decide +kernel
theorem dX4_neededBy_6 : decode cX4_neededBy 6 = .ok (.getfield 26, 3) := by decide +kernel
theorem dX4_neededBy_9 : decode cX4_neededBy 9 = .ok (.if_icmp .ge 29, 3) := by decide +kernel
theorem dX4_neededBy_12 : decode cX4_neededBy 12 = .ok (.aload_n 0, 1) := by decide +kernel
theorem dX4_neededBy_13 : decode cX4_neededBy 13 = .ok (.getfield 20, 3) := by decide +kernel
theorem dX4_neededBy_16 : decode cX4_neededBy 16 = .ok (.iload_n 3, 1) := by decide +kernel
theorem dX4_neededBy_17 : decode cX4_neededBy 17 = .ok (.iaload, 1) := by decide +kernel
theorem dX4_neededBy_18 : decode cX4_neededBy 18 = .ok (.iload_n 1, 1) := by decide +kernel
theorem dX4_neededBy_19 : decode cX4_neededBy 19 = .ok (.ishr, 1) := by decide +kernel
theorem dX4_neededBy_20 : decode cX4_neededBy 20 = .ok (.iconst 1, 1) := by decide +kernel
theorem dX4_neededBy_21 : decode cX4_neededBy 21 = .ok (.iand, 1) := by decide +kernel
theorem dX4_neededBy_22 : decode cX4_neededBy 22 = .ok (.iconst 1, 1) := by decide +kernel
theorem dX4_neededBy_23 : decode cX4_neededBy 23 = .ok (.if_icmp .ne 9, 3) := by decide +kernel
theorem dX4_neededBy_26 : decode cX4_neededBy 26 = .ok (.iload_n 2, 1) := by decide +kernel
theorem dX4_neededBy_27 : decode cX4_neededBy 27 = .ok (.iconst 1, 1) := by decide +kernel
theorem dX4_neededBy_28 : decode cX4_neededBy 28 = .ok (.iload_n 3, 1) := by decide +kernel
theorem dX4_neededBy_29 : decode cX4_neededBy 29 = .ok (.ishl, 1) := by decide +kernel
theorem dX4_neededBy_30 : decode cX4_neededBy 30 = .ok (.ior, 1) := by decide +kernel
theorem dX4_neededBy_31 : decode cX4_neededBy 31 = .ok (.istore_n 2, 1) := by decide +kernel
theorem dX4_neededBy_32 : decode cX4_neededBy 32 = .ok (.iinc 3 1, 3) := by decide +kernel
theorem dX4_neededBy_35 : decode cX4_neededBy 35 = .ok (.goto (-31), 3) := by decide +kernel
theorem dX4_neededBy_38 : decode cX4_neededBy 38 = .ok (.iload_n 2, 1) := by decide +kernel
theorem dX4_neededBy_39 : decode cX4_neededBy 39 = .ok (.ireturn, 1) := by decide +kernel
theorem dX4_rivals_0 : decode cX4_rivals 0 = .ok (.aload_n 0, 1) := by decide +kernel
theorem dX4_rivals_1 : decode cX4_rivals 1 = .ok (.getfield 16, 3) := by decide +kernel
theorem dX4_rivals_4 : decode cX4_rivals 4 = .ok (.iload_n 1, 1) := by decide +kernel
theorem dX4_rivals_5 : decode cX4_rivals 5 = .ok (.iaload, 1) := by decide +kernel
theorem dX4_rivals_6 : decode cX4_rivals 6 = .ok (.istore_n 2, 1) := by decide +kernel
theorem dX4_rivals_7 : decode cX4_rivals 7 = .ok (.aload_n 0, 1) := by decide +kernel
theorem dX4_rivals_8 : decode cX4_rivals 8 = .ok (.getfield 11, 3) := by decide +kernel
theorem dX4_rivals_11 : decode cX4_rivals 11 = .ok (.iconst 4, 1) := by decide +kernel
theorem dX4_rivals_12 : decode cX4_rivals 12 = .ok (.aaload, 1) := by decide +kernel
theorem dX4_rivals_13 : decode cX4_rivals 13 = .ok (.iload_n 1, 1) := by decide +kernel
theorem dX4_rivals_14 : decode cX4_rivals 14 = .ok (.iaload, 1) := by decide +kernel
theorem dX4_rivals_15 : decode cX4_rivals 15 = .ok (.istore_n 3, 1) := by decide +kernel
theorem dX4_rivals_16 : decode cX4_rivals 16 = .ok (.iconst 0, 1) := by decide +kernel
theorem dX4_rivals_17 : decode cX4_rivals 17 = .ok (.istore 4, 2) := by decide +kernel
theorem dX4_rivals_19 : decode cX4_rivals 19 = .ok (.iload 4, 2) := by decide +kernel
theorem dX4_rivals_21 : decode cX4_rivals 21 = .ok (.aload_n 0, 1) := by decide +kernel
theorem dX4_rivals_22 : decode cX4_rivals 22 = .ok (.getfield 26, 3) := by decide +kernel
theorem dX4_rivals_25 : decode cX4_rivals 25 = .ok (.if_icmp .ge 40, 3) := by decide +kernel
theorem dX4_rivals_28 : decode cX4_rivals 28 = .ok (.iload 4, 2) := by decide +kernel
theorem dX4_rivals_30 : decode cX4_rivals 30 = .ok (.iload_n 1, 1) := by decide +kernel
theorem dX4_rivals_31 : decode cX4_rivals 31 = .ok (.if_icmp .eq 28, 3) := by decide +kernel
theorem dX4_rivals_34 : decode cX4_rivals 34 = .ok (.iload_n 3, 1) := by decide +kernel
theorem dX4_rivals_35 : decode cX4_rivals 35 = .ok (.iconst (-1), 1) := by decide +kernel
theorem dX4_rivals_36 : decode cX4_rivals 36 = .ok (.if_icmp .eq 23, 3) := by decide +kernel
theorem dX4_rivals_39 : decode cX4_rivals 39 = .ok (.aload_n 0, 1) := by decide +kernel
theorem dX4_rivals_40 : decode cX4_rivals 40 = .ok (.getfield 11, 3) := by decide +kernel
theorem dX4_rivals_43 : decode cX4_rivals 43 = .ok (.iconst 4, 1) := by decide +kernel
theorem dX4_rivals_44 : decode cX4_rivals 44 = .ok (.aaload, 1) := by decide +kernel
theorem dX4_rivals_45 : decode cX4_rivals 45 = .ok (.iload 4, 2) := by decide +kernel
theorem dX4_rivals_47 : decode cX4_rivals 47 = .ok (.iaload, 1) := by decide +kernel
theorem dX4_rivals_48 : decode cX4_rivals 48 = .ok (.iload_n 3, 1) := by decide +kernel
theorem dX4_rivals_49 : decode cX4_rivals 49 = .ok (.if_icmp .ne 10, 3) := by decide +kernel
theorem dX4_rivals_52 : decode cX4_rivals 52 = .ok (.iload_n 2, 1) := by decide +kernel
theorem dX4_rivals_53 : decode cX4_rivals 53 = .ok (.iconst 1, 1) := by decide +kernel
theorem dX4_rivals_54 : decode cX4_rivals 54 = .ok (.iload 4, 2) := by decide +kernel
theorem dX4_rivals_56 : decode cX4_rivals 56 = .ok (.ishl, 1) := by decide +kernel
theorem dX4_rivals_57 : decode cX4_rivals 57 = .ok (.ior, 1) := by decide +kernel
theorem dX4_rivals_58 : decode cX4_rivals 58 = .ok (.istore_n 2, 1) := by decide +kernel
theorem dX4_rivals_59 : decode cX4_rivals 59 = .ok (.iinc 4 1, 3) := by decide +kernel
theorem dX4_rivals_62 : decode cX4_rivals 62 = .ok (.goto (-43), 3) := by decide +kernel
theorem dX4_rivals_65 : decode cX4_rivals 65 = .ok (.iload_n 2, 1) := by decide +kernel
theorem dX4_rivals_66 : decode cX4_rivals 66 = .ok (.ireturn, 1) := by decide +kernel
set_option maxRecDepth 20000 in
theorem ggX4_bitsIn_J6_bitCount_0f7a4 : GoodIn wsX4_bitsIn wsJ6_bitCount_0f7a4 := goodIn_r _ [5, 6, 7, 8] (by decide +kernel) (by decide +kernel)
set_option maxRecDepth 20000 in
theorem gX4_bitsIn_J6_bitCount_0f7a4 : GoodIn wsX4_bitsIn (va_wsS RX4 40 yJ6_bitCount_0f7a4 wsJ6_bitCount_0f7a4) := goodIn_app (goodIn_of _ (by decide +kernel)) ggX4_bitsIn_J6_bitCount_0f7a4
theorem dX4_bitsIn_0 : decode cX4_bitsIn 0 = .ok (.iconst 0, 1) := by decide +kernel
theorem dX4_bitsIn_1 : decode cX4_bitsIn 1 = .ok (.istore_n 2, 1) := by decide +kernel
theorem dX4_bitsIn_2 : decode cX4_bitsIn 2 = .ok (.iconst 0, 1) := by decide +kernel
theorem dX4_bitsIn_3 : decode cX4_bitsIn 3 = .ok (.istore_n 3, 1) := by decide +kernel
theorem dX4_bitsIn_4 : decode cX4_bitsIn 4 = .ok (.iload_n 3, 1) := by decide +kernel
theorem dX4_bitsIn_5 : decode cX4_bitsIn 5 = .ok (.aload_n 0, 1) := by decide +kernel
theorem dX4_bitsIn_6 : decode cX4_bitsIn 6 = .ok (.getfield 26, 3) := by decide +kernel
theorem dX4_bitsIn_9 : decode cX4_bitsIn 9 = .ok (.if_icmp .ge 18, 3) := by decide +kernel
theorem dX4_bitsIn_12 : decode cX4_bitsIn 12 = .ok (.iload_n 2, 1) := by decide +kernel
theorem dX4_bitsIn_13 : decode cX4_bitsIn 13 = .ok (.aload_n 1, 1) := by decide +kernel
theorem dX4_bitsIn_14 : decode cX4_bitsIn 14 = .ok (.iload_n 3, 1) := by decide +kernel
theorem dX4_bitsIn_15 : decode cX4_bitsIn 15 = .ok (.iaload, 1) := by decide +kernel
theorem dX4_bitsIn_16 : decode cX4_bitsIn 16 = .ok (.invokestatic 40, 3) := by decide +kernel
theorem dX4_bitsIn_19 : decode cX4_bitsIn 19 = .ok (.iadd, 1) := by decide +kernel
theorem dX4_bitsIn_20 : decode cX4_bitsIn 20 = .ok (.istore_n 2, 1) := by decide +kernel
theorem dX4_bitsIn_21 : decode cX4_bitsIn 21 = .ok (.iinc 3 1, 3) := by decide +kernel
theorem dX4_bitsIn_24 : decode cX4_bitsIn 24 = .ok (.goto (-20), 3) := by decide +kernel
theorem dX4_bitsIn_27 : decode cX4_bitsIn 27 = .ok (.iload_n 2, 1) := by decide +kernel
theorem dX4_bitsIn_28 : decode cX4_bitsIn 28 = .ok (.ireturn, 1) := by decide +kernel
set_option maxRecDepth 20000 in
theorem ggX4_weightUnder_X4_sumOf : GoodIn wsX4_weightUnder wsX4_sumOf := goodIn_r _ [5, 6, 7, 8, 9, 10, 11, 12] (by decide +kernel) (by decide +kernel)
set_option maxRecDepth 20000 in
theorem gX4_weightUnder_X4_sumOf : GoodIn wsX4_weightUnder (wsV RX4 46 RX4 yX4_sumOf wsX4_sumOf) := goodIn_app (goodIn_of _ (by decide +kernel)) ggX4_weightUnder_X4_sumOf
theorem dX4_weightUnder_0 : decode cX4_weightUnder 0 = .ok (.aload_n 0, 1) := by decide +kernel
theorem dX4_weightUnder_1 : decode cX4_weightUnder 1 = .ok (.iload_n 1, 1) := by decide +kernel
theorem dX4_weightUnder_2 : decode cX4_weightUnder 2 = .ok (.iconst 1, 1) := by decide +kernel
theorem dX4_weightUnder_3 : decode cX4_weightUnder 3 = .ok (.invokevirtual 46, 3) := by decide +kernel
theorem dX4_weightUnder_6 : decode cX4_weightUnder 6 = .ok (.aload_n 0, 1) := by decide +kernel
theorem dX4_weightUnder_7 : decode cX4_weightUnder 7 = .ok (.iload_n 1, 1) := by decide +kernel
theorem dX4_weightUnder_8 : decode cX4_weightUnder 8 = .ok (.iload_n 2, 1) := by decide +kernel
theorem dX4_weightUnder_9 : decode cX4_weightUnder 9 = .ok (.iand, 1) := by decide +kernel
theorem dX4_weightUnder_10 : decode cX4_weightUnder 10 = .ok (.iconst 2, 1) := by decide +kernel
theorem dX4_weightUnder_11 : decode cX4_weightUnder 11 = .ok (.invokevirtual 46, 3) := by decide +kernel
theorem dX4_weightUnder_14 : decode cX4_weightUnder 14 = .ok (.iadd, 1) := by decide +kernel
theorem dX4_weightUnder_15 : decode cX4_weightUnder 15 = .ok (.ireturn, 1) := by decide +kernel
set_option maxRecDepth 20000 in
theorem ggX4_profitUnder_X4_sumOf : GoodIn wsX4_profitUnder wsX4_sumOf := goodIn_r _ [5, 6, 7, 8, 9, 10, 11, 12] (by decide +kernel) (by decide +kernel)
set_option maxRecDepth 20000 in
theorem gX4_profitUnder_X4_sumOf : GoodIn wsX4_profitUnder (wsV RX4 46 RX4 yX4_sumOf wsX4_sumOf) := goodIn_app (goodIn_of _ (by decide +kernel)) ggX4_profitUnder_X4_sumOf
theorem dX4_profitUnder_0 : decode cX4_profitUnder 0 = .ok (.aload_n 0, 1) := by decide +kernel
theorem dX4_profitUnder_1 : decode cX4_profitUnder 1 = .ok (.iload_n 1, 1) := by decide +kernel
theorem dX4_profitUnder_2 : decode cX4_profitUnder 2 = .ok (.iconst 0, 1) := by decide +kernel
theorem dX4_profitUnder_3 : decode cX4_profitUnder 3 = .ok (.invokevirtual 46, 3) := by decide +kernel
theorem dX4_profitUnder_6 : decode cX4_profitUnder 6 = .ok (.aload_n 0, 1) := by decide +kernel
theorem dX4_profitUnder_7 : decode cX4_profitUnder 7 = .ok (.iload_n 1, 1) := by decide +kernel
theorem dX4_profitUnder_8 : decode cX4_profitUnder 8 = .ok (.iload_n 2, 1) := by decide +kernel
theorem dX4_profitUnder_9 : decode cX4_profitUnder 9 = .ok (.iand, 1) := by decide +kernel
theorem dX4_profitUnder_10 : decode cX4_profitUnder 10 = .ok (.iconst 3, 1) := by decide +kernel
theorem dX4_profitUnder_11 : decode cX4_profitUnder 11 = .ok (.invokevirtual 46, 3) := by decide +kernel
theorem dX4_profitUnder_14 : decode cX4_profitUnder 14 = .ok (.isub, 1) := by decide +kernel
theorem dX4_profitUnder_15 : decode cX4_profitUnder 15 = .ok (.ireturn, 1) := by decide +kernel
theorem dX4_sumOf_0 : decode cX4_sumOf 0 = .ok (.iconst 0, 1) := by decide +kernel
theorem dX4_sumOf_1 : decode cX4_sumOf 1 = .ok (.istore_n 3, 1) := by decide +kernel
theorem dX4_sumOf_2 : decode cX4_sumOf 2 = .ok (.iconst 0, 1) := by decide +kernel
theorem dX4_sumOf_3 : decode cX4_sumOf 3 = .ok (.istore 4, 2) := by decide +kernel
theorem dX4_sumOf_5 : decode cX4_sumOf 5 = .ok (.iload 4, 2) := by decide +kernel
theorem dX4_sumOf_7 : decode cX4_sumOf 7 = .ok (.aload_n 0, 1) := by decide +kernel
theorem dX4_sumOf_8 : decode cX4_sumOf 8 = .ok (.getfield 26, 3) := by decide +kernel
theorem dX4_sumOf_11 : decode cX4_sumOf 11 = .ok (.if_icmp .ge 31, 3) := by decide +kernel
theorem dX4_sumOf_14 : decode cX4_sumOf 14 = .ok (.iload_n 1, 1) := by decide +kernel
theorem dX4_sumOf_15 : decode cX4_sumOf 15 = .ok (.iload 4, 2) := by decide +kernel
theorem dX4_sumOf_17 : decode cX4_sumOf 17 = .ok (.ishr, 1) := by decide +kernel
theorem dX4_sumOf_18 : decode cX4_sumOf 18 = .ok (.iconst 1, 1) := by decide +kernel
theorem dX4_sumOf_19 : decode cX4_sumOf 19 = .ok (.iand, 1) := by decide +kernel
theorem dX4_sumOf_20 : decode cX4_sumOf 20 = .ok (.iconst 1, 1) := by decide +kernel
theorem dX4_sumOf_21 : decode cX4_sumOf 21 = .ok (.if_icmp .ne 15, 3) := by decide +kernel
theorem dX4_sumOf_24 : decode cX4_sumOf 24 = .ok (.iload_n 3, 1) := by decide +kernel
theorem dX4_sumOf_25 : decode cX4_sumOf 25 = .ok (.aload_n 0, 1) := by decide +kernel
theorem dX4_sumOf_26 : decode cX4_sumOf 26 = .ok (.getfield 11, 3) := by decide +kernel
theorem dX4_sumOf_29 : decode cX4_sumOf 29 = .ok (.iload_n 2, 1) := by decide +kernel
theorem dX4_sumOf_30 : decode cX4_sumOf 30 = .ok (.aaload, 1) := by decide +kernel
theorem dX4_sumOf_31 : decode cX4_sumOf 31 = .ok (.iload 4, 2) := by decide +kernel
theorem dX4_sumOf_33 : decode cX4_sumOf 33 = .ok (.iaload, 1) := by decide +kernel
theorem dX4_sumOf_34 : decode cX4_sumOf 34 = .ok (.iadd, 1) := by decide +kernel
theorem dX4_sumOf_35 : decode cX4_sumOf 35 = .ok (.istore_n 3, 1) := by decide +kernel
theorem dX4_sumOf_36 : decode cX4_sumOf 36 = .ok (.iinc 4 1, 3) := by decide +kernel
theorem dX4_sumOf_39 : decode cX4_sumOf 39 = .ok (.goto (-34), 3) := by decide +kernel
theorem dX4_sumOf_42 : decode cX4_sumOf 42 = .ok (.iload_n 3, 1) := by decide +kernel
theorem dX4_sumOf_43 : decode cX4_sumOf 43 = .ok (.ireturn, 1) := by decide +kernel
theorem dX4_worst_0 : decode cX4_worst 0 = .ok (.iconst 0, 1) := by decide +kernel
theorem dX4_worst_1 : decode cX4_worst 1 = .ok (.istore 4, 2) := by decide +kernel
theorem dX4_worst_3 : decode cX4_worst 3 = .ok (.iconst 0, 1) := by decide +kernel
theorem dX4_worst_4 : decode cX4_worst 4 = .ok (.istore 5, 2) := by decide +kernel
theorem dX4_worst_6 : decode cX4_worst 6 = .ok (.iload 5, 2) := by decide +kernel
theorem dX4_worst_8 : decode cX4_worst 8 = .ok (.iload_n 3, 1) := by decide +kernel
theorem dX4_worst_9 : decode cX4_worst 9 = .ok (.if_icmp .ge 106, 3) := by decide +kernel
theorem dX4_worst_12 : decode cX4_worst 12 = .ok (.iconst (-1), 1) := by decide +kernel
theorem dX4_worst_13 : decode cX4_worst 13 = .ok (.istore 6, 2) := by decide +kernel
theorem dX4_worst_15 : decode cX4_worst 15 = .ok (.iconst 0, 1) := by decide +kernel
theorem dX4_worst_16 : decode cX4_worst 16 = .ok (.istore 7, 2) := by decide +kernel
theorem dX4_worst_18 : decode cX4_worst 18 = .ok (.iconst 0, 1) := by decide +kernel
theorem dX4_worst_19 : decode cX4_worst 19 = .ok (.istore 8, 2) := by decide +kernel
theorem dX4_worst_21 : decode cX4_worst 21 = .ok (.iload 8, 2) := by decide +kernel
theorem dX4_worst_23 : decode cX4_worst 23 = .ok (.aload_n 0, 1) := by decide +kernel
theorem dX4_worst_24 : decode cX4_worst 24 = .ok (.getfield 26, 3) := by decide +kernel
theorem dX4_worst_27 : decode cX4_worst 27 = .ok (.if_icmp .ge 65, 3) := by decide +kernel
theorem dX4_worst_30 : decode cX4_worst 30 = .ok (.iload_n 1, 1) := by decide +kernel
theorem dX4_worst_31 : decode cX4_worst 31 = .ok (.iload 4, 2) := by decide +kernel
theorem dX4_worst_33 : decode cX4_worst 33 = .ok (.iconst (-1), 1) := by decide +kernel
theorem dX4_worst_34 : decode cX4_worst 34 = .ok (.ixor, 1) := by decide +kernel
theorem dX4_worst_35 : decode cX4_worst 35 = .ok (.iand, 1) := by decide +kernel
theorem dX4_worst_36 : decode cX4_worst 36 = .ok (.iload 8, 2) := by decide +kernel
theorem dX4_worst_38 : decode cX4_worst 38 = .ok (.ishr, 1) := by decide +kernel
theorem dX4_worst_39 : decode cX4_worst 39 = .ok (.iconst 1, 1) := by decide +kernel
theorem dX4_worst_40 : decode cX4_worst 40 = .ok (.iand, 1) := by decide +kernel
theorem dX4_worst_41 : decode cX4_worst 41 = .ok (.iconst 1, 1) := by decide +kernel
theorem dX4_worst_42 : decode cX4_worst 42 = .ok (.if_icmp .ne 7, 3) := by decide +kernel
theorem dX4_worst_45 : decode cX4_worst 45 = .ok (.iconst 1, 1) := by decide +kernel
theorem dX4_worst_46 : decode cX4_worst 46 = .ok (.goto 4, 3) := by decide +kernel
theorem dX4_worst_49 : decode cX4_worst 49 = .ok (.iconst 0, 1) := by decide +kernel
theorem dX4_worst_50 : decode cX4_worst 50 = .ok (.istore 9, 2) := by decide +kernel
theorem dX4_worst_52 : decode cX4_worst 52 = .ok (.iload 9, 2) := by decide +kernel
theorem dX4_worst_54 : decode cX4_worst 54 = .ok (.ifCond .eq 32, 3) := by decide +kernel
theorem dX4_worst_57 : decode cX4_worst 57 = .ok (.aload_n 0, 1) := by decide +kernel
theorem dX4_worst_58 : decode cX4_worst 58 = .ok (.getfield 11, 3) := by decide +kernel
theorem dX4_worst_61 : decode cX4_worst 61 = .ok (.iload_n 2, 1) := by decide +kernel
theorem dX4_worst_62 : decode cX4_worst 62 = .ok (.aaload, 1) := by decide +kernel
theorem dX4_worst_63 : decode cX4_worst 63 = .ok (.iload 8, 2) := by decide +kernel
theorem dX4_worst_65 : decode cX4_worst 65 = .ok (.iaload, 1) := by decide +kernel
theorem dX4_worst_66 : decode cX4_worst 66 = .ok (.iload 7, 2) := by decide +kernel
theorem dX4_worst_68 : decode cX4_worst 68 = .ok (.if_icmp .le 18, 3) := by decide +kernel
theorem dX4_worst_71 : decode cX4_worst 71 = .ok (.iload 8, 2) := by decide +kernel
theorem dX4_worst_73 : decode cX4_worst 73 = .ok (.istore 6, 2) := by decide +kernel
theorem dX4_worst_75 : decode cX4_worst 75 = .ok (.aload_n 0, 1) := by decide +kernel
theorem dX4_worst_76 : decode cX4_worst 76 = .ok (.getfield 11, 3) := by decide +kernel
theorem dX4_worst_79 : decode cX4_worst 79 = .ok (.iload_n 2, 1) := by decide +kernel
theorem dX4_worst_80 : decode cX4_worst 80 = .ok (.aaload, 1) := by decide +kernel
theorem dX4_worst_81 : decode cX4_worst 81 = .ok (.iload 8, 2) := by decide +kernel
theorem dX4_worst_83 : decode cX4_worst 83 = .ok (.iaload, 1) := by decide +kernel
theorem dX4_worst_84 : decode cX4_worst 84 = .ok (.istore 7, 2) := by decide +kernel
theorem dX4_worst_86 : decode cX4_worst 86 = .ok (.iinc 8 1, 3) := by decide +kernel
theorem dX4_worst_89 : decode cX4_worst 89 = .ok (.goto (-68), 3) := by decide +kernel
theorem dX4_worst_92 : decode cX4_worst 92 = .ok (.iload 6, 2) := by decide +kernel
theorem dX4_worst_94 : decode cX4_worst 94 = .ok (.ifCond .ge 6, 3) := by decide +kernel
theorem dX4_worst_97 : decode cX4_worst 97 = .ok (.goto 18, 3) := by decide +kernel
theorem dX4_worst_100 : decode cX4_worst 100 = .ok (.iload 4, 2) := by decide +kernel
theorem dX4_worst_102 : decode cX4_worst 102 = .ok (.iconst 1, 1) := by decide +kernel
theorem dX4_worst_103 : decode cX4_worst 103 = .ok (.iload 6, 2) := by decide +kernel
theorem dX4_worst_105 : decode cX4_worst 105 = .ok (.ishl, 1) := by decide +kernel
theorem dX4_worst_106 : decode cX4_worst 106 = .ok (.ior, 1) := by decide +kernel
theorem dX4_worst_107 : decode cX4_worst 107 = .ok (.istore 4, 2) := by decide +kernel
theorem dX4_worst_109 : decode cX4_worst 109 = .ok (.iinc 5 1, 3) := by decide +kernel
theorem dX4_worst_112 : decode cX4_worst 112 = .ok (.goto (-106), 3) := by decide +kernel
theorem dX4_worst_115 : decode cX4_worst 115 = .ok (.iload 4, 2) := by decide +kernel
theorem dX4_worst_117 : decode cX4_worst 117 = .ok (.ireturn, 1) := by decide +kernel
set_option maxRecDepth 20000 in
theorem ggX4_mostFruitful_X4_isMoreFruitful : GoodIn wsX4_mostFruitful wsX4_isMoreFruitful := goodIn_r _ [10, 11, 12, 13, 14, 15, 16] (by decide +kernel) (by decide +kernel)
set_option maxRecDepth 20000 in
theorem gX4_mostFruitful_X4_isMoreFruitful : GoodIn wsX4_mostFruitful (wsV RX4 49 RX4 yX4_isMoreFruitful wsX4_isMoreFruitful) := goodIn_app (goodIn_of _ (by decide +kernel)) ggX4_mostFruitful_X4_isMoreFruitful
theorem dX4_mostFruitful_0 : decode cX4_mostFruitful 0 = .ok (.iconst (-1), 1) := by decide +kernel
theorem dX4_mostFruitful_1 : decode cX4_mostFruitful 1 = .ok (.istore_n 2, 1) := by decide +kernel
theorem dX4_mostFruitful_2 : decode cX4_mostFruitful 2 = .ok (.iconst 0, 1) := by decide +kernel
theorem dX4_mostFruitful_3 : decode cX4_mostFruitful 3 = .ok (.istore_n 3, 1) := by decide +kernel
theorem dX4_mostFruitful_4 : decode cX4_mostFruitful 4 = .ok (.iload_n 3, 1) := by decide +kernel
theorem dX4_mostFruitful_5 : decode cX4_mostFruitful 5 = .ok (.aload_n 0, 1) := by decide +kernel
theorem dX4_mostFruitful_6 : decode cX4_mostFruitful 6 = .ok (.getfield 26, 3) := by decide +kernel
theorem dX4_mostFruitful_9 : decode cX4_mostFruitful 9 = .ok (.if_icmp .ge 44, 3) := by decide +kernel
theorem dX4_mostFruitful_12 : decode cX4_mostFruitful 12 = .ok (.iload_n 1, 1) := by decide +kernel
theorem dX4_mostFruitful_13 : decode cX4_mostFruitful 13 = .ok (.iload_n 3, 1) := by decide +kernel
theorem dX4_mostFruitful_14 : decode cX4_mostFruitful 14 = .ok (.ishr, 1) := by decide +kernel
theorem dX4_mostFruitful_15 : decode cX4_mostFruitful 15 = .ok (.iconst 1, 1) := by decide +kernel
theorem dX4_mostFruitful_16 : decode cX4_mostFruitful 16 = .ok (.iand, 1) := by decide +kernel
theorem dX4_mostFruitful_17 : decode cX4_mostFruitful 17 = .ok (.ifCond .ne 7, 3) := by decide +kernel
theorem dX4_mostFruitful_20 : decode cX4_mostFruitful 20 = .ok (.iconst 1, 1) := by decide +kernel
theorem dX4_mostFruitful_21 : decode cX4_mostFruitful 21 = .ok (.goto 4, 3) := by decide +kernel
theorem dX4_mostFruitful_24 : decode cX4_mostFruitful 24 = .ok (.iconst 0, 1) := by decide +kernel
theorem dX4_mostFruitful_25 : decode cX4_mostFruitful 25 = .ok (.istore 4, 2) := by decide +kernel
theorem dX4_mostFruitful_27 : decode cX4_mostFruitful 27 = .ok (.iload 4, 2) := by decide +kernel
theorem dX4_mostFruitful_29 : decode cX4_mostFruitful 29 = .ok (.ifCond .eq 18, 3) := by decide +kernel
theorem dX4_mostFruitful_32 : decode cX4_mostFruitful 32 = .ok (.iload_n 2, 1) := by decide +kernel
theorem dX4_mostFruitful_33 : decode cX4_mostFruitful 33 = .ok (.ifCond .lt 12, 3) := by decide +kernel
theorem dX4_mostFruitful_36 : decode cX4_mostFruitful 36 = .ok (.aload_n 0, 1) := by decide +kernel
theorem dX4_mostFruitful_37 : decode cX4_mostFruitful 37 = .ok (.iload_n 3, 1) := by decide +kernel
theorem dX4_mostFruitful_38 : decode cX4_mostFruitful 38 = .ok (.iload_n 2, 1) := by decide +kernel
theorem dX4_mostFruitful_39 : decode cX4_mostFruitful 39 = .ok (.invokevirtual 49, 3) := by decide +kernel
theorem dX4_mostFruitful_42 : decode cX4_mostFruitful 42 = .ok (.ifCond .eq 5, 3) := by decide +kernel
theorem dX4_mostFruitful_45 : decode cX4_mostFruitful 45 = .ok (.iload_n 3, 1) := by decide +kernel
theorem dX4_mostFruitful_46 : decode cX4_mostFruitful 46 = .ok (.istore_n 2, 1) := by decide +kernel
theorem dX4_mostFruitful_47 : decode cX4_mostFruitful 47 = .ok (.iinc 3 1, 3) := by decide +kernel
theorem dX4_mostFruitful_50 : decode cX4_mostFruitful 50 = .ok (.goto (-46), 3) := by decide +kernel
theorem dX4_mostFruitful_53 : decode cX4_mostFruitful 53 = .ok (.iload_n 2, 1) := by decide +kernel
theorem dX4_mostFruitful_54 : decode cX4_mostFruitful 54 = .ok (.iconst 0, 1) := by decide +kernel
theorem dX4_mostFruitful_55 : decode cX4_mostFruitful 55 = .ok (.invokestatic 53, 3) := by decide +kernel
theorem dX4_mostFruitful_58 : decode cX4_mostFruitful 58 = .ok (.ireturn, 1) := by decide +kernel
theorem dX4_isMoreFruitful_0 : decode cX4_isMoreFruitful 0 = .ok (.aload_n 0, 1) := by decide +kernel
theorem dX4_isMoreFruitful_1 : decode cX4_isMoreFruitful 1 = .ok (.getfield 11, 3) := by decide +kernel
theorem dX4_isMoreFruitful_4 : decode cX4_isMoreFruitful 4 = .ok (.iconst 1, 1) := by decide +kernel
theorem dX4_isMoreFruitful_5 : decode cX4_isMoreFruitful 5 = .ok (.aaload, 1) := by decide +kernel
theorem dX4_isMoreFruitful_6 : decode cX4_isMoreFruitful 6 = .ok (.iload_n 1, 1) := by decide +kernel
theorem dX4_isMoreFruitful_7 : decode cX4_isMoreFruitful 7 = .ok (.iaload, 1) := by decide +kernel
theorem dX4_isMoreFruitful_8 : decode cX4_isMoreFruitful 8 = .ok (.aload_n 0, 1) := by decide +kernel
theorem dX4_isMoreFruitful_9 : decode cX4_isMoreFruitful 9 = .ok (.getfield 11, 3) := by decide +kernel
theorem dX4_isMoreFruitful_12 : decode cX4_isMoreFruitful 12 = .ok (.iconst 2, 1) := by decide +kernel
theorem dX4_isMoreFruitful_13 : decode cX4_isMoreFruitful 13 = .ok (.aaload, 1) := by decide +kernel
theorem dX4_isMoreFruitful_14 : decode cX4_isMoreFruitful 14 = .ok (.iload_n 1, 1) := by decide +kernel
theorem dX4_isMoreFruitful_15 : decode cX4_isMoreFruitful 15 = .ok (.iaload, 1) := by decide +kernel
theorem dX4_isMoreFruitful_16 : decode cX4_isMoreFruitful 16 = .ok (.iadd, 1) := by decide +kernel
theorem dX4_isMoreFruitful_17 : decode cX4_isMoreFruitful 17 = .ok (.istore_n 3, 1) := by decide +kernel
theorem dX4_isMoreFruitful_18 : decode cX4_isMoreFruitful 18 = .ok (.aload_n 0, 1) := by decide +kernel
theorem dX4_isMoreFruitful_19 : decode cX4_isMoreFruitful 19 = .ok (.getfield 11, 3) := by decide +kernel
theorem dX4_isMoreFruitful_22 : decode cX4_isMoreFruitful 22 = .ok (.iconst 1, 1) := by decide +kernel
theorem dX4_isMoreFruitful_23 : decode cX4_isMoreFruitful 23 = .ok (.aaload, 1) := by decide +kernel
theorem dX4_isMoreFruitful_24 : decode cX4_isMoreFruitful 24 = .ok (.iload_n 2, 1) := by decide +kernel
theorem dX4_isMoreFruitful_25 : decode cX4_isMoreFruitful 25 = .ok (.iaload, 1) := by decide +kernel
theorem dX4_isMoreFruitful_26 : decode cX4_isMoreFruitful 26 = .ok (.aload_n 0, 1) := by decide +kernel
theorem dX4_isMoreFruitful_27 : decode cX4_isMoreFruitful 27 = .ok (.getfield 11, 3) := by decide +kernel
theorem dX4_isMoreFruitful_30 : decode cX4_isMoreFruitful 30 = .ok (.iconst 2, 1) := by decide +kernel
theorem dX4_isMoreFruitful_31 : decode cX4_isMoreFruitful 31 = .ok (.aaload, 1) := by decide +kernel
theorem dX4_isMoreFruitful_32 : decode cX4_isMoreFruitful 32 = .ok (.iload_n 2, 1) := by decide +kernel
theorem dX4_isMoreFruitful_33 : decode cX4_isMoreFruitful 33 = .ok (.iaload, 1) := by decide +kernel
theorem dX4_isMoreFruitful_34 : decode cX4_isMoreFruitful 34 = .ok (.iadd, 1) := by decide +kernel
theorem dX4_isMoreFruitful_35 : decode cX4_isMoreFruitful 35 = .ok (.istore 4, 2) := by decide +kernel
theorem dX4_isMoreFruitful_37 : decode cX4_isMoreFruitful 37 = .ok (.aload_n 0, 1) := by decide +kernel
theorem dX4_isMoreFruitful_38 : decode cX4_isMoreFruitful 38 = .ok (.getfield 11, 3) := by decide +kernel
theorem dX4_isMoreFruitful_41 : decode cX4_isMoreFruitful 41 = .ok (.iconst 0, 1) := by decide +kernel
theorem dX4_isMoreFruitful_42 : decode cX4_isMoreFruitful 42 = .ok (.aaload, 1) := by decide +kernel
theorem dX4_isMoreFruitful_43 : decode cX4_isMoreFruitful 43 = .ok (.iload_n 1, 1) := by decide +kernel
theorem dX4_isMoreFruitful_44 : decode cX4_isMoreFruitful 44 = .ok (.iaload, 1) := by decide +kernel
theorem dX4_isMoreFruitful_45 : decode cX4_isMoreFruitful 45 = .ok (.iload 4, 2) := by decide +kernel
theorem dX4_isMoreFruitful_47 : decode cX4_isMoreFruitful 47 = .ok (.imul, 1) := by decide +kernel
theorem dX4_isMoreFruitful_48 : decode cX4_isMoreFruitful 48 = .ok (.aload_n 0, 1) := by decide +kernel
theorem dX4_isMoreFruitful_49 : decode cX4_isMoreFruitful 49 = .ok (.getfield 11, 3) := by decide +kernel
theorem dX4_isMoreFruitful_52 : decode cX4_isMoreFruitful 52 = .ok (.iconst 0, 1) := by decide +kernel
theorem dX4_isMoreFruitful_53 : decode cX4_isMoreFruitful 53 = .ok (.aaload, 1) := by decide +kernel
theorem dX4_isMoreFruitful_54 : decode cX4_isMoreFruitful 54 = .ok (.iload_n 2, 1) := by decide +kernel
theorem dX4_isMoreFruitful_55 : decode cX4_isMoreFruitful 55 = .ok (.iaload, 1) := by decide +kernel
theorem dX4_isMoreFruitful_56 : decode cX4_isMoreFruitful 56 = .ok (.iload_n 3, 1) := by decide +kernel
theorem dX4_isMoreFruitful_57 : decode cX4_isMoreFruitful 57 = .ok (.imul, 1) := by decide +kernel
theorem dX4_isMoreFruitful_58 : decode cX4_isMoreFruitful 58 = .ok (.if_icmp .le 7, 3) := by decide +kernel
theorem dX4_isMoreFruitful_61 : decode cX4_isMoreFruitful 61 = .ok (.iconst 1, 1) := by decide +kernel
theorem dX4_isMoreFruitful_62 : decode cX4_isMoreFruitful 62 = .ok (.goto 4, 3) := by decide +kernel
theorem dX4_isMoreFruitful_65 : decode cX4_isMoreFruitful 65 = .ok (.iconst 0, 1) := by decide +kernel
theorem dX4_isMoreFruitful_66 : decode cX4_isMoreFruitful 66 = .ok (.ireturn, 1) := by decide +kernel
theorem dX4_thresholdBelow_0 : decode cX4_thresholdBelow 0 = .ok (.iload_n 1, 1) := by decide +kernel
theorem dX4_thresholdBelow_1 : decode cX4_thresholdBelow 1 = .ok (.ifCond .le 7, 3) := by decide +kernel
theorem dX4_thresholdBelow_4 : decode cX4_thresholdBelow 4 = .ok (.iconst 0, 1) := by decide +kernel
theorem dX4_thresholdBelow_5 : decode cX4_thresholdBelow 5 = .ok (.goto 4, 3) := by decide +kernel
theorem dX4_thresholdBelow_8 : decode cX4_thresholdBelow 8 = .ok (.iconst (-1), 1) := by decide +kernel
theorem dX4_thresholdBelow_9 : decode cX4_thresholdBelow 9 = .ok (.istore_n 2, 1) := by decide +kernel
theorem dX4_thresholdBelow_10 : decode cX4_thresholdBelow 10 = .ok (.iconst 0, 1) := by decide +kernel
theorem dX4_thresholdBelow_11 : decode cX4_thresholdBelow 11 = .ok (.istore_n 3, 1) := by decide +kernel
theorem dX4_thresholdBelow_12 : decode cX4_thresholdBelow 12 = .ok (.iload_n 3, 1) := by decide +kernel
theorem dX4_thresholdBelow_13 : decode cX4_thresholdBelow 13 = .ok (.aload_n 0, 1) := by decide +kernel
theorem dX4_thresholdBelow_14 : decode cX4_thresholdBelow 14 = .ok (.getfield 26, 3) := by decide +kernel
theorem dX4_thresholdBelow_17 : decode cX4_thresholdBelow 17 = .ok (.if_icmp .ge 34, 3) := by decide +kernel
theorem dX4_thresholdBelow_20 : decode cX4_thresholdBelow 20 = .ok (.aload_n 0, 1) := by decide +kernel
theorem dX4_thresholdBelow_21 : decode cX4_thresholdBelow 21 = .ok (.getfield 11, 3) := by decide +kernel
theorem dX4_thresholdBelow_24 : decode cX4_thresholdBelow 24 = .ok (.iconst 2, 1) := by decide +kernel
theorem dX4_thresholdBelow_25 : decode cX4_thresholdBelow 25 = .ok (.aaload, 1) := by decide +kernel
theorem dX4_thresholdBelow_26 : decode cX4_thresholdBelow 26 = .ok (.iload_n 3, 1) := by decide +kernel
theorem dX4_thresholdBelow_27 : decode cX4_thresholdBelow 27 = .ok (.iaload, 1) := by decide +kernel
theorem dX4_thresholdBelow_28 : decode cX4_thresholdBelow 28 = .ok (.istore 4, 2) := by decide +kernel
theorem dX4_thresholdBelow_30 : decode cX4_thresholdBelow 30 = .ok (.iload 4, 2) := by decide +kernel
theorem dX4_thresholdBelow_32 : decode cX4_thresholdBelow 32 = .ok (.iload_n 1, 1) := by decide +kernel
theorem dX4_thresholdBelow_33 : decode cX4_thresholdBelow 33 = .ok (.if_icmp .ge 12, 3) := by decide +kernel
theorem dX4_thresholdBelow_36 : decode cX4_thresholdBelow 36 = .ok (.iload 4, 2) := by decide +kernel
theorem dX4_thresholdBelow_38 : decode cX4_thresholdBelow 38 = .ok (.iload_n 2, 1) := by decide +kernel
theorem dX4_thresholdBelow_39 : decode cX4_thresholdBelow 39 = .ok (.if_icmp .le 6, 3) := by decide +kernel
theorem dX4_thresholdBelow_42 : decode cX4_thresholdBelow 42 = .ok (.iload 4, 2) := by decide +kernel
theorem dX4_thresholdBelow_44 : decode cX4_thresholdBelow 44 = .ok (.istore_n 2, 1) := by decide +kernel
theorem dX4_thresholdBelow_45 : decode cX4_thresholdBelow 45 = .ok (.iinc 3 1, 3) := by decide +kernel
theorem dX4_thresholdBelow_48 : decode cX4_thresholdBelow 48 = .ok (.goto (-36), 3) := by decide +kernel
theorem dX4_thresholdBelow_51 : decode cX4_thresholdBelow 51 = .ok (.iload_n 2, 1) := by decide +kernel
theorem dX4_thresholdBelow_52 : decode cX4_thresholdBelow 52 = .ok (.ireturn, 1) := by decide +kernel
set_option maxRecDepth 20000 in
theorem ggX5_init_X4_init : GoodIn wsX5_init wsX4_init := goodIn_r _ [29, 30, 2, 3, 31, 32, 33, 34, 35, 36, 37, 77, 78, 79, 80, 81] (by decide +kernel) (by decide +kernel)
set_option maxRecDepth 20000 in
theorem gX5_init_X4_init : GoodIn wsX5_init (wsX4_init) := ggX5_init_X4_init
set_option maxRecDepth 20000 in
theorem ggX5_init_X1_init : GoodIn wsX5_init wsX1_init := goodIn_r _ [40, 41, 2, 3, 32, 42, 43, 44, 45, 46, 47, 90, 91, 92, 93, 94] (by decide +kernel) (by decide +kernel)
set_option maxRecDepth 20000 in
theorem gX5_init_X1_init : GoodIn wsX5_init (wsX1_init) := ggX5_init_X1_init
set_option maxRecDepth 20000 in
theorem ggX5_init_X0_init : GoodIn wsX5_init wsX0_init := goodIn_r _ [50, 51, 2, 3, 32, 52, 53, 54, 55, 56, 57, 58, 59, 60, 61, 95, 96, 97, 98, 99, 100, 101, 102, 103, 104] (by decide +kernel) (by decide +kernel)
set_option maxRecDepth 20000 in
theorem gX5_init_X0_init : GoodIn wsX5_init (wsX0_init) := ggX5_init_X0_init
set_option maxRecDepth 20000 in
theorem ggX5_init_X3_init : GoodIn wsX5_init wsX3_init := goodIn_r _ [64, 65, 2, 3, 32, 66, 67, 105, 106] (by decide +kernel) (by decide +kernel)
set_option maxRecDepth 20000 in
theorem gX5_init_X3_init : GoodIn wsX5_init (wsX3_init) := ggX5_init_X3_init
set_option maxRecDepth 20000 in
theorem ggX5_init_X2_init : GoodIn wsX5_init wsX2_init := goodIn_r _ [70, 71, 2, 3, 32, 72, 73, 74, 75, 76, 107, 108, 109, 110, 111] (by decide +kernel) (by decide +kernel)
set_option maxRecDepth 20000 in
theorem gX5_init_X2_init : GoodIn wsX5_init (wsX2_init) := ggX5_init_X2_init
