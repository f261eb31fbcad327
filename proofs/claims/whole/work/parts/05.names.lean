theorem dX6_init_0 : decode cX6_init 0 = .ok (.aload_n 0, 1) := by decide +kernel
theorem dX6_init_1 : decode cX6_init 1 = .ok (.invokespecial 1, 3) := by decide +kernel
theorem dX6_init_4 : decode cX6_init 4 = .ok (.aload_n 0, 1) := by decide +kernel
theorem dX6_init_5 : decode cX6_init 5 = .ok (.bipush 88, 2) := by decide +kernel
theorem dX6_init_7 : decode cX6_init 7 = .ok (.newarray .int, 2) := by decide +kernel
theorem dX6_init_9 : decode cX6_init 9 = .ok (.putfield 7, 3) := by decide +kernel
theorem dX6_init_12 : decode cX6_init 12 = .ok (.aload_n 0, 1) := by decide +kernel
theorem dX6_init_13 : decode cX6_init 13 = .ok (.sipush 1056, 3) := by decide +kernel
theorem dX6_init_16 : decode cX6_init 16 = .ok (.newarray .int, 2) := by decide +kernel
theorem dX6_init_18 : decode cX6_init 18 = .ok (.putfield 13, 3) := by decide +kernel
theorem dX6_init_21 : decode cX6_init 21 = .ok (.aload_n 0, 1) := by decide +kernel
theorem dX6_init_22 : decode cX6_init 22 = .ok (.bipush 80, 2) := by decide +kernel
theorem dX6_init_24 : decode cX6_init 24 = .ok (.newarray .int, 2) := by decide +kernel
theorem dX6_init_26 : decode cX6_init 26 = .ok (.putfield 16, 3) := by decide +kernel
theorem dX6_init_29 : decode cX6_init 29 = .ok (.aload_n 0, 1) := by decide +kernel
theorem dX6_init_30 : decode cX6_init 30 = .ok (.bipush 120, 2) := by decide +kernel
theorem dX6_init_32 : decode cX6_init 32 = .ok (.newarray .int, 2) := by decide +kernel
theorem dX6_init_34 : decode cX6_init 34 = .ok (.putfield 19, 3) := by decide +kernel
theorem dX6_init_37 : decode cX6_init 37 = .ok (.aload_n 0, 1) := by decide +kernel
theorem dX6_init_38 : decode cX6_init 38 = .ok (.sipush 4096, 3) := by decide +kernel
theorem dX6_init_41 : decode cX6_init 41 = .ok (.newarray .int, 2) := by decide +kernel
theorem dX6_init_43 : decode cX6_init 43 = .ok (.putfield 22, 3) := by decide +kernel
theorem dX6_init_46 : decode cX6_init 46 = .ok (.aload_n 0, 1) := by decide +kernel
theorem dX6_init_47 : decode cX6_init 47 = .ok (.sipush 4096, 3) := by decide +kernel
theorem dX6_init_50 : decode cX6_init 50 = .ok (.newarray .int, 2) := by decide +kernel
theorem dX6_init_52 : decode cX6_init 52 = .ok (.putfield 25, 3) := by decide +kernel
theorem dX6_init_55 : decode cX6_init 55 = .ok (.aload_n 0, 1) := by decide +kernel
theorem dX6_init_56 : decode cX6_init 56 = .ok (.sipush 4096, 3) := by decide +kernel
theorem dX6_init_59 : decode cX6_init 59 = .ok (.newarray .boolean, 2) := by decide +kernel
theorem dX6_init_61 : decode cX6_init 61 = .ok (.putfield 28, 3) := by decide +kernel
theorem dX6_init_64 : decode cX6_init 64 = .ok (.aload_n 0, 1) := by decide +kernel
theorem dX6_init_65 : decode cX6_init 65 = .ok (.sipush 4096, 3) := by decide +kernel
theorem dX6_init_68 : decode cX6_init 68 = .ok (.newarray .int, 2) := by decide +kernel
theorem dX6_init_70 : decode cX6_init 70 = .ok (.putfield 32, 3) := by decide +kernel
theorem dX6_init_73 : decode cX6_init 73 = .ok (.aload_n 0, 1) := by decide +kernel
theorem dX6_init_74 : decode cX6_init 74 = .ok (.sipush 4096, 3) := by decide +kernel
theorem dX6_init_77 : decode cX6_init 77 = .ok (.newarray .int, 2) := by decide +kernel
theorem dX6_init_79 : decode cX6_init 79 = .ok (.putfield 35, 3) := by decide +kernel
theorem dX6_init_82 : decode cX6_init 82 = .ok (.aload_n 0, 1) := by decide +kernel
theorem dX6_init_83 : decode cX6_init 83 = .ok (.bipush 13, 2) := by decide +kernel
theorem dX6_init_85 : decode cX6_init 85 = .ok (.newarray .int, 2) := by decide +kernel
theorem dX6_init_87 : decode cX6_init 87 = .ok (.putfield 38, 3) := by decide +kernel
theorem dX6_init_90 : decode cX6_init 90 = .ok (.aload_n 0, 1) := by decide +kernel
theorem dX6_init_91 : decode cX6_init 91 = .ok (.sipush 4096, 3) := by decide +kernel
theorem dX6_init_94 : decode cX6_init 94 = .ok (.newarray .int, 2) := by decide +kernel
theorem dX6_init_96 : decode cX6_init 96 = .ok (.putfield 41, 3) := by decide +kernel
theorem dX6_init_99 : decode cX6_init 99 = .ok (.aload_n 0, 1) := by decide +kernel
theorem dX6_init_100 : decode cX6_init 100 = .ok (.sipush 4096, 3) := by decide +kernel
theorem dX6_init_103 : decode cX6_init 103 = .ok (.newarray .int, 2) := by decide +kernel
theorem dX6_init_105 : decode cX6_init 105 = .ok (.putfield 44, 3) := by decide +kernel
theorem dX6_init_108 : decode cX6_init 108 = .ok (.aload_n 0, 1) := by decide +kernel
theorem dX6_init_109 : decode cX6_init 109 = .ok (.sipush 4096, 3) := by decide +kernel
theorem dX6_init_112 : decode cX6_init 112 = .ok (.newarray .int, 2) := by decide +kernel
theorem dX6_init_114 : decode cX6_init 114 = .ok (.putfield 47, 3) := by decide +kernel
theorem dX6_init_117 : decode cX6_init 117 = .ok (.aload_n 0, 1) := by decide +kernel
theorem dX6_init_118 : decode cX6_init 118 = .ok (.sipush 4096, 3) := by decide +kernel
theorem dX6_init_121 : decode cX6_init 121 = .ok (.newarray .int, 2) := by decide +kernel
theorem dX6_init_123 : decode cX6_init 123 = .ok (.putfield 50, 3) := by decide +kernel
theorem dX6_init_126 : decode cX6_init 126 = .ok (.aload_n 0, 1) := by decide +kernel
theorem dX6_init_127 : decode cX6_init 127 = .ok (.getfield 7, 3) := by decide +kernel
theorem dX6_init_130 : decode cX6_init 130 = .ok (.iconst 1, 1) := by decide +kernel
theorem dX6_init_131 : decode cX6_init 131 = .ok (.sipush 1000, 3) := by decide +kernel
theorem dX6_init_134 : decode cX6_init 134 = .ok (.iastore, 1) := by decide +kernel
theorem dX6_init_135 : decode cX6_init 135 = .ok (.return_, 1) := by decide +kernel
theorem dX6_in_0 : decode cX6_in 0 = .ok (.iload_n 0, 1) := by decide +kernel
theorem dX6_in_1 : decode cX6_in 1 = .ok (.iload_n 1, 1) := by decide +kernel
theorem dX6_in_2 : decode cX6_in 2 = .ok (.if_icmp .lt 12, 3) := by decide +kernel
theorem dX6_in_5 : decode cX6_in 5 = .ok (.iload_n 0, 1) := by decide +kernel
theorem dX6_in_6 : decode cX6_in 6 = .ok (.iload_n 2, 1) := by decide +kernel
theorem dX6_in_7 : decode cX6_in 7 = .ok (.if_icmp .gt 7, 3) := by decide +kernel
theorem dX6_in_10 : decode cX6_in 10 = .ok (.iconst 1, 1) := by decide +kernel
theorem dX6_in_11 : decode cX6_in 11 = .ok (.goto 4, 3) := by decide +kernel
theorem dX6_in_14 : decode cX6_in 14 = .ok (.iconst 0, 1) := by decide +kernel
theorem dX6_in_15 : decode cX6_in 15 = .ok (.ireturn, 1) := by decide +kernel
theorem dX6_has_0 : decode cX6_has 0 = .ok (.iload_n 0, 1) := by decide +kernel
theorem dX6_has_1 : decode cX6_has 1 = .ok (.iload_n 1, 1) := by decide +kernel
theorem dX6_has_2 : decode cX6_has 2 = .ok (.ishr, 1) := by decide +kernel
theorem dX6_has_3 : decode cX6_has 3 = .ok (.iconst 1, 1) := by decide +kernel
theorem dX6_has_4 : decode cX6_has 4 = .ok (.iand, 1) := by decide +kernel
theorem dX6_has_5 : decode cX6_has 5 = .ok (.iconst 1, 1) := by decide +kernel
theorem dX6_has_6 : decode cX6_has 6 = .ok (.if_icmp .ne 7, 3) := by decide +kernel
theorem dX6_has_9 : decode cX6_has 9 = .ok (.iconst 1, 1) := by decide +kernel
theorem dX6_has_10 : decode cX6_has 10 = .ok (.goto 4, 3) := by decide +kernel
theorem dX6_has_13 : decode cX6_has 13 = .ok (.iconst 0, 1) := by decide +kernel
theorem dX6_has_14 : decode cX6_has 14 = .ok (.ireturn, 1) := by decide +kernel
theorem dX6_sizeOf_0 : decode cX6_sizeOf 0 = .ok (.iconst 0, 1) := by decide +kernel
theorem dX6_sizeOf_1 : decode cX6_sizeOf 1 = .ok (.istore_n 1, 1) := by decide +kernel
theorem dX6_sizeOf_2 : decode cX6_sizeOf 2 = .ok (.iconst 0, 1) := by decide +kernel
theorem dX6_sizeOf_3 : decode cX6_sizeOf 3 = .ok (.istore_n 2, 1) := by decide +kernel
theorem dX6_sizeOf_4 : decode cX6_sizeOf 4 = .ok (.iload_n 2, 1) := by decide +kernel
theorem dX6_sizeOf_5 : decode cX6_sizeOf 5 = .ok (.bipush 12, 2) := by decide +kernel
theorem dX6_sizeOf_7 : decode cX6_sizeOf 7 = .ok (.if_icmp .ge 17, 3) := by decide +kernel
theorem dX6_sizeOf_10 : decode cX6_sizeOf 10 = .ok (.iload_n 1, 1) := by decide +kernel
theorem dX6_sizeOf_11 : decode cX6_sizeOf 11 = .ok (.iload_n 0, 1) := by decide +kernel
theorem dX6_sizeOf_12 : decode cX6_sizeOf 12 = .ok (.iload_n 2, 1) := by decide +kernel
theorem dX6_sizeOf_13 : decode cX6_sizeOf 13 = .ok (.ishr, 1) := by decide +kernel
theorem dX6_sizeOf_14 : decode cX6_sizeOf 14 = .ok (.iconst 1, 1) := by decide +kernel
theorem dX6_sizeOf_15 : decode cX6_sizeOf 15 = .ok (.iand, 1) := by decide +kernel
theorem dX6_sizeOf_16 : decode cX6_sizeOf 16 = .ok (.iadd, 1) := by decide +kernel
theorem dX6_sizeOf_17 : decode cX6_sizeOf 17 = .ok (.istore_n 1, 1) := by decide +kernel
theorem dX6_sizeOf_18 : decode cX6_sizeOf 18 = .ok (.iinc 2 1, 3) := by decide +kernel
theorem dX6_sizeOf_21 : decode cX6_sizeOf 21 = .ok (.goto (-17), 3) := by decide +kernel
theorem dX6_sizeOf_24 : decode cX6_sizeOf 24 = .ok (.iload_n 1, 1) := by decide +kernel
theorem dX6_sizeOf_25 : decode cX6_sizeOf 25 = .ok (.ireturn, 1) := by decide +kernel
set_option maxRecDepth 20000 in
theorem ggX6_isItem_X6_in : GoodIn wsX6_isItem wsX6_in := goodIn_r _ [5] (by decide +kernel) (by decide +kernel)
set_option maxRecDepth 20000 in
theorem gX6_isItem_X6_in : GoodIn wsX6_isItem (va_wsS RX6 53 yX6_in wsX6_in) := goodIn_app (goodIn_of _ (by decide +kernel)) ggX6_isItem_X6_in
theorem dX6_isItem_0 : decode cX6_isItem 0 = .ok (.iload_n 1, 1) := by decide +kernel
theorem dX6_isItem_1 : decode cX6_isItem 1 = .ok (.iconst 0, 1) := by decide +kernel
theorem dX6_isItem_2 : decode cX6_isItem 2 = .ok (.aload_n 0, 1) := by decide +kernel
theorem dX6_isItem_3 : decode cX6_isItem 3 = .ok (.getfield 7, 3) := by decide +kernel
theorem dX6_isItem_6 : decode cX6_isItem 6 = .ok (.iconst 0, 1) := by decide +kernel
theorem dX6_isItem_7 : decode cX6_isItem 7 = .ok (.iaload, 1) := by decide +kernel
theorem dX6_isItem_8 : decode cX6_isItem 8 = .ok (.iconst 1, 1) := by decide +kernel
theorem dX6_isItem_9 : decode cX6_isItem 9 = .ok (.isub, 1) := by decide +kernel
theorem dX6_isItem_10 : decode cX6_isItem 10 = .ok (.invokestatic 53, 3) := by decide +kernel
theorem dX6_isItem_13 : decode cX6_isItem 13 = .ok (.ireturn, 1) := by decide +kernel
set_option maxRecDepth 20000 in
theorem ggX6_isChoice_X6_in : GoodIn wsX6_isChoice wsX6_in := goodIn_r _ [5] (by decide +kernel) (by decide +kernel)
set_option maxRecDepth 20000 in
theorem gX6_isChoice_X6_in : GoodIn wsX6_isChoice (va_wsS RX6 53 yX6_in wsX6_in) := goodIn_app (goodIn_of _ (by decide +kernel)) ggX6_isChoice_X6_in
theorem dX6_isChoice_0 : decode cX6_isChoice 0 = .ok (.iload_n 1, 1) := by decide +kernel
theorem dX6_isChoice_1 : decode cX6_isChoice 1 = .ok (.iconst 0, 1) := by decide +kernel
theorem dX6_isChoice_2 : decode cX6_isChoice 2 = .ok (.iconst 1, 1) := by decide +kernel
theorem dX6_isChoice_3 : decode cX6_isChoice 3 = .ok (.aload_n 0, 1) := by decide +kernel
theorem dX6_isChoice_4 : decode cX6_isChoice 4 = .ok (.getfield 7, 3) := by decide +kernel
theorem dX6_isChoice_7 : decode cX6_isChoice 7 = .ok (.iconst 0, 1) := by decide +kernel
theorem dX6_isChoice_8 : decode cX6_isChoice 8 = .ok (.iaload, 1) := by decide +kernel
theorem dX6_isChoice_9 : decode cX6_isChoice 9 = .ok (.ishl, 1) := by decide +kernel
theorem dX6_isChoice_10 : decode cX6_isChoice 10 = .ok (.iconst 1, 1) := by decide +kernel
theorem dX6_isChoice_11 : decode cX6_isChoice 11 = .ok (.isub, 1) := by decide +kernel
theorem dX6_isChoice_12 : decode cX6_isChoice 12 = .ok (.invokestatic 53, 3) := by decide +kernel
theorem dX6_isChoice_15 : decode cX6_isChoice 15 = .ok (.ireturn, 1) := by decide +kernel
theorem dX6_of_0 : decode cX6_of 0 = .ok (.aload_n 0, 1) := by decide +kernel
theorem dX6_of_1 : decode cX6_of 1 = .ok (.getfield 7, 3) := by decide +kernel
theorem dX6_of_4 : decode cX6_of 4 = .ok (.iconst 4, 1) := by decide +kernel
theorem dX6_of_5 : decode cX6_of 5 = .ok (.iconst 5, 1) := by decide +kernel
theorem dX6_of_6 : decode cX6_of 6 = .ok (.iload_n 1, 1) := by decide +kernel
theorem dX6_of_7 : decode cX6_of 7 = .ok (.imul, 1) := by decide +kernel
theorem dX6_of_8 : decode cX6_of 8 = .ok (.iadd, 1) := by decide +kernel
theorem dX6_of_9 : decode cX6_of 9 = .ok (.iload_n 2, 1) := by decide +kernel
theorem dX6_of_10 : decode cX6_of 10 = .ok (.iadd, 1) := by decide +kernel
theorem dX6_of_11 : decode cX6_of 11 = .ok (.iaload, 1) := by decide +kernel
theorem dX6_of_12 : decode cX6_of 12 = .ok (.ireturn, 1) := by decide +kernel
theorem dX6_record_0 : decode cX6_record 0 = .ok (.aload_n 0, 1) := by decide +kernel
theorem dX6_record_1 : decode cX6_record 1 = .ok (.getfield 57, 3) := by decide +kernel
theorem dX6_record_4 : decode cX6_record 4 = .ok (.bipush 12, 2) := by decide +kernel
theorem dX6_record_6 : decode cX6_record 6 = .ok (.if_icmp .ne 43, 3) := by decide +kernel
theorem dX6_record_9 : decode cX6_record 9 = .ok (.iconst 0, 1) := by decide +kernel
theorem dX6_record_10 : decode cX6_record 10 = .ok (.istore_n 1, 1) := by decide +kernel
theorem dX6_record_11 : decode cX6_record 11 = .ok (.iload_n 1, 1) := by decide +kernel
theorem dX6_record_12 : decode cX6_record 12 = .ok (.sipush 968, 3) := by decide +kernel
theorem dX6_record_15 : decode cX6_record 15 = .ok (.if_icmp .ge 24, 3) := by decide +kernel
theorem dX6_record_18 : decode cX6_record 18 = .ok (.aload_n 0, 1) := by decide +kernel
theorem dX6_record_19 : decode cX6_record 19 = .ok (.getfield 13, 3) := by decide +kernel
theorem dX6_record_22 : decode cX6_record 22 = .ok (.iload_n 1, 1) := by decide +kernel
theorem dX6_record_23 : decode cX6_record 23 = .ok (.aload_n 0, 1) := by decide +kernel
theorem dX6_record_24 : decode cX6_record 24 = .ok (.getfield 13, 3) := by decide +kernel
theorem dX6_record_27 : decode cX6_record 27 = .ok (.iload_n 1, 1) := by decide +kernel
theorem dX6_record_28 : decode cX6_record 28 = .ok (.bipush 88, 2) := by decide +kernel
theorem dX6_record_30 : decode cX6_record 30 = .ok (.iadd, 1) := by decide +kernel
theorem dX6_record_31 : decode cX6_record 31 = .ok (.iaload, 1) := by decide +kernel
theorem dX6_record_32 : decode cX6_record 32 = .ok (.iastore, 1) := by decide +kernel
theorem dX6_record_33 : decode cX6_record 33 = .ok (.iinc 1 1, 3) := by decide +kernel
theorem dX6_record_36 : decode cX6_record 36 = .ok (.goto (-25), 3) := by decide +kernel
theorem dX6_record_39 : decode cX6_record 39 = .ok (.aload_n 0, 1) := by decide +kernel
theorem dX6_record_40 : decode cX6_record 40 = .ok (.dup, 1) := by decide +kernel
theorem dX6_record_41 : decode cX6_record 41 = .ok (.getfield 57, 3) := by decide +kernel
theorem dX6_record_44 : decode cX6_record 44 = .ok (.iconst 1, 1) := by decide +kernel
theorem dX6_record_45 : decode cX6_record 45 = .ok (.isub, 1) := by decide +kernel
theorem dX6_record_46 : decode cX6_record 46 = .ok (.putfield 57, 3) := by decide +kernel
theorem dX6_record_49 : decode cX6_record 49 = .ok (.iconst 0, 1) := by decide +kernel
theorem dX6_record_50 : decode cX6_record 50 = .ok (.istore_n 1, 1) := by decide +kernel
theorem dX6_record_51 : decode cX6_record 51 = .ok (.iload_n 1, 1) := by decide +kernel
theorem dX6_record_52 : decode cX6_record 52 = .ok (.bipush 88, 2) := by decide +kernel
theorem dX6_record_54 : decode cX6_record 54 = .ok (.if_icmp .ge 29, 3) := by decide +kernel
theorem dX6_record_57 : decode cX6_record 57 = .ok (.aload_n 0, 1) := by decide +kernel
theorem dX6_record_58 : decode cX6_record 58 = .ok (.getfield 13, 3) := by decide +kernel
theorem dX6_record_61 : decode cX6_record 61 = .ok (.bipush 88, 2) := by decide +kernel
theorem dX6_record_63 : decode cX6_record 63 = .ok (.aload_n 0, 1) := by decide +kernel
theorem dX6_record_64 : decode cX6_record 64 = .ok (.getfield 57, 3) := by decide +kernel
theorem dX6_record_67 : decode cX6_record 67 = .ok (.imul, 1) := by decide +kernel
theorem dX6_record_68 : decode cX6_record 68 = .ok (.iload_n 1, 1) := by decide +kernel
theorem dX6_record_69 : decode cX6_record 69 = .ok (.iadd, 1) := by decide +kernel
theorem dX6_record_70 : decode cX6_record 70 = .ok (.aload_n 0, 1) := by decide +kernel
theorem dX6_record_71 : decode cX6_record 71 = .ok (.getfield 7, 3) := by decide +kernel
theorem dX6_record_74 : decode cX6_record 74 = .ok (.iload_n 1, 1) := by decide +kernel
theorem dX6_record_75 : decode cX6_record 75 = .ok (.iaload, 1) := by decide +kernel
theorem dX6_record_76 : decode cX6_record 76 = .ok (.iastore, 1) := by decide +kernel
theorem dX6_record_77 : decode cX6_record 77 = .ok (.iinc 1 1, 3) := by decide +kernel
theorem dX6_record_80 : decode cX6_record 80 = .ok (.goto (-29), 3) := by decide +kernel
theorem dX6_record_83 : decode cX6_record 83 = .ok (.aload_n 0, 1) := by decide +kernel
theorem dX6_record_84 : decode cX6_record 84 = .ok (.dup, 1) := by decide +kernel
theorem dX6_record_85 : decode cX6_record 85 = .ok (.getfield 57, 3) := by decide +kernel
theorem dX6_record_88 : decode cX6_record 88 = .ok (.iconst 1, 1) := by decide +kernel
theorem dX6_record_89 : decode cX6_record 89 = .ok (.iadd, 1) := by decide +kernel
theorem dX6_record_90 : decode cX6_record 90 = .ok (.putfield 57, 3) := by decide +kernel
theorem dX6_record_93 : decode cX6_record 93 = .ok (.return_, 1) := by decide +kernel
theorem dX6_append_0 : decode cX6_append 0 = .ok (.aload_n 0, 1) := by decide +kernel
theorem dX6_append_1 : decode cX6_append 1 = .ok (.getfield 7, 3) := by decide +kernel
theorem dX6_append_4 : decode cX6_append 4 = .ok (.iconst 0, 1) := by decide +kernel
theorem dX6_append_5 : decode cX6_append 5 = .ok (.iaload, 1) := by decide +kernel
theorem dX6_append_6 : decode cX6_append 6 = .ok (.istore 6, 2) := by decide +kernel
theorem dX6_append_8 : decode cX6_append 8 = .ok (.aload_n 0, 1) := by decide +kernel
theorem dX6_append_9 : decode cX6_append 9 = .ok (.getfield 7, 3) := by decide +kernel
theorem dX6_append_12 : decode cX6_append 12 = .ok (.iconst 4, 1) := by decide +kernel
theorem dX6_append_13 : decode cX6_append 13 = .ok (.iconst 5, 1) := by decide +kernel
theorem dX6_append_14 : decode cX6_append 14 = .ok (.iload 6, 2) := by decide +kernel
theorem dX6_append_16 : decode cX6_append 16 = .ok (.imul, 1) := by decide +kernel
theorem dX6_append_17 : decode cX6_append 17 = .ok (.iadd, 1) := by decide +kernel
theorem dX6_append_18 : decode cX6_append 18 = .ok (.iconst 0, 1) := by decide +kernel
theorem dX6_append_19 : decode cX6_append 19 = .ok (.iadd, 1) := by decide +kernel
theorem dX6_append_20 : decode cX6_append 20 = .ok (.iload_n 1, 1) := by decide +kernel
theorem dX6_append_21 : decode cX6_append 21 = .ok (.iastore, 1) := by decide +kernel
theorem dX6_append_22 : decode cX6_append 22 = .ok (.aload_n 0, 1) := by decide +kernel
theorem dX6_append_23 : decode cX6_append 23 = .ok (.getfield 7, 3) := by decide +kernel
theorem dX6_append_26 : decode cX6_append 26 = .ok (.iconst 4, 1) := by decide +kernel
theorem dX6_append_27 : decode cX6_append 27 = .ok (.iconst 5, 1) := by decide +kernel
theorem dX6_append_28 : decode cX6_append 28 = .ok (.iload 6, 2) := by decide +kernel
theorem dX6_append_30 : decode cX6_append 30 = .ok (.imul, 1) := by decide +kernel
theorem dX6_append_31 : decode cX6_append 31 = .ok (.iadd, 1) := by decide +kernel
theorem dX6_append_32 : decode cX6_append 32 = .ok (.iconst 1, 1) := by decide +kernel
theorem dX6_append_33 : decode cX6_append 33 = .ok (.iadd, 1) := by decide +kernel
theorem dX6_append_34 : decode cX6_append 34 = .ok (.iload_n 2, 1) := by decide +kernel
theorem dX6_append_35 : decode cX6_append 35 = .ok (.iastore, 1) := by decide +kernel
theorem dX6_append_36 : decode cX6_append 36 = .ok (.aload_n 0, 1) := by decide +kernel
theorem dX6_append_37 : decode cX6_append 37 = .ok (.getfield 7, 3) := by decide +kernel
theorem dX6_append_40 : decode cX6_append 40 = .ok (.iconst 4, 1) := by decide +kernel
theorem dX6_append_41 : decode cX6_append 41 = .ok (.iconst 5, 1) := by decide +kernel
theorem dX6_append_42 : decode cX6_append 42 = .ok (.iload 6, 2) := by decide +kernel
theorem dX6_append_44 : decode cX6_append 44 = .ok (.imul, 1) := by decide +kernel
theorem dX6_append_45 : decode cX6_append 45 = .ok (.iadd, 1) := by decide +kernel
theorem dX6_append_46 : decode cX6_append 46 = .ok (.iconst 2, 1) := by decide +kernel
theorem dX6_append_47 : decode cX6_append 47 = .ok (.iadd, 1) := by decide +kernel
theorem dX6_append_48 : decode cX6_append 48 = .ok (.iload_n 3, 1) := by decide +kernel
theorem dX6_append_49 : decode cX6_append 49 = .ok (.iastore, 1) := by decide +kernel
theorem dX6_append_50 : decode cX6_append 50 = .ok (.aload_n 0, 1) := by decide +kernel
theorem dX6_append_51 : decode cX6_append 51 = .ok (.getfield 7, 3) := by decide +kernel
theorem dX6_append_54 : decode cX6_append 54 = .ok (.iconst 4, 1) := by decide +kernel
theorem dX6_append_55 : decode cX6_append 55 = .ok (.iconst 5, 1) := by decide +kernel
theorem dX6_append_56 : decode cX6_append 56 = .ok (.iload 6, 2) := by decide +kernel
theorem dX6_append_58 : decode cX6_append 58 = .ok (.imul, 1) := by decide +kernel
theorem dX6_append_59 : decode cX6_append 59 = .ok (.iadd, 1) := by decide +kernel
theorem dX6_append_60 : decode cX6_append 60 = .ok (.iconst 3, 1) := by decide +kernel
theorem dX6_append_61 : decode cX6_append 61 = .ok (.iadd, 1) := by decide +kernel
theorem dX6_append_62 : decode cX6_append 62 = .ok (.iload 4, 2) := by decide +kernel
theorem dX6_append_64 : decode cX6_append 64 = .ok (.iastore, 1) := by decide +kernel
theorem dX6_append_65 : decode cX6_append 65 = .ok (.aload_n 0, 1) := by decide +kernel
theorem dX6_append_66 : decode cX6_append 66 = .ok (.getfield 7, 3) := by decide +kernel
theorem dX6_append_69 : decode cX6_append 69 = .ok (.iconst 4, 1) := by decide +kernel
theorem dX6_append_70 : decode cX6_append 70 = .ok (.iconst 5, 1) := by decide +kernel
theorem dX6_append_71 : decode cX6_append 71 = .ok (.iload 6, 2) := by decide +kernel
theorem dX6_append_73 : decode cX6_append 73 = .ok (.imul, 1) := by decide +kernel
theorem dX6_append_74 : decode cX6_append 74 = .ok (.iadd, 1) := by decide +kernel
theorem dX6_append_75 : decode cX6_append 75 = .ok (.iconst 4, 1) := by decide +kernel
theorem dX6_append_76 : decode cX6_append 76 = .ok (.iadd, 1) := by decide +kernel
theorem dX6_append_77 : decode cX6_append 77 = .ok (.iload 5, 2) := by decide +kernel
theorem dX6_append_79 : decode cX6_append 79 = .ok (.iastore, 1) := by decide +kernel
theorem dX6_append_80 : decode cX6_append 80 = .ok (.aload_n 0, 1) := by decide +kernel
theorem dX6_append_81 : decode cX6_append 81 = .ok (.getfield 7, 3) := by decide +kernel
theorem dX6_append_84 : decode cX6_append 84 = .ok (.bipush 64, 2) := by decide +kernel
theorem dX6_append_86 : decode cX6_append 86 = .ok (.iload 6, 2) := by decide +kernel
theorem dX6_append_88 : decode cX6_append 88 = .ok (.iadd, 1) := by decide +kernel
theorem dX6_append_89 : decode cX6_append 89 = .ok (.iconst 0, 1) := by decide +kernel
theorem dX6_append_90 : decode cX6_append 90 = .ok (.iastore, 1) := by decide +kernel
theorem dX6_append_91 : decode cX6_append 91 = .ok (.aload_n 0, 1) := by decide +kernel
theorem dX6_append_92 : decode cX6_append 92 = .ok (.getfield 7, 3) := by decide +kernel
theorem dX6_append_95 : decode cX6_append 95 = .ok (.bipush 76, 2) := by decide +kernel
theorem dX6_append_97 : decode cX6_append 97 = .ok (.iload 6, 2) := by decide +kernel
theorem dX6_append_99 : decode cX6_append 99 = .ok (.iadd, 1) := by decide +kernel
theorem dX6_append_100 : decode cX6_append 100 = .ok (.iconst 0, 1) := by decide +kernel
theorem dX6_append_101 : decode cX6_append 101 = .ok (.iastore, 1) := by decide +kernel
theorem dX6_append_102 : decode cX6_append 102 = .ok (.aload_n 0, 1) := by decide +kernel
theorem dX6_append_103 : decode cX6_append 103 = .ok (.getfield 7, 3) := by decide +kernel
theorem dX6_append_106 : decode cX6_append 106 = .ok (.iconst 0, 1) := by decide +kernel
theorem dX6_append_107 : decode cX6_append 107 = .ok (.dup2, 1) := by decide +kernel
theorem dX6_append_108 : decode cX6_append 108 = .ok (.iaload, 1) := by decide +kernel
theorem dX6_append_109 : decode cX6_append 109 = .ok (.iconst 1, 1) := by decide +kernel
theorem dX6_append_110 : decode cX6_append 110 = .ok (.iadd, 1) := by decide +kernel
theorem dX6_append_111 : decode cX6_append 111 = .ok (.iastore, 1) := by decide +kernel
theorem dX6_append_112 : decode cX6_append 112 = .ok (.return_, 1) := by decide +kernel
set_option maxRecDepth 20000 in
theorem ggX6_add_X6_in : GoodIn wsX6_add wsX6_in := goodIn_r _ [5] (by decide +kernel) (by decide +kernel)
set_option maxRecDepth 20000 in
theorem gX6_add_X6_in : GoodIn wsX6_add (va_wsS RX6 53 yX6_in wsX6_in) := goodIn_app (goodIn_of _ (by decide +kernel)) ggX6_add_X6_in
set_option maxRecDepth 20000 in
theorem ggX6_add_X6_record : GoodIn wsX6_add wsX6_record := goodIn_r _ [9, 10, 11, 1, 16, 17, 18, 19, 20, 21, 22, 23, 24, 25, 26, 27, 28, 29, 30, 31, 32, 33, 34, 35, 36] (by decide +kernel) (by decide +kernel)
set_option maxRecDepth 20000 in
theorem gX6_add_X6_record : GoodIn wsX6_add (wsV RX6 61 RX6 yX6_record wsX6_record) := goodIn_app (goodIn_of _ (by decide +kernel)) ggX6_add_X6_record
set_option maxRecDepth 20000 in
theorem ggX6_add_X6_append : GoodIn wsX6_add wsX6_append := goodIn_r _ [15, 1, 16, 17, 18, 19, 20, 21, 22, 23, 24, 25, 26, 27, 28, 29, 30, 31, 32, 33, 34, 35, 36] (by decide +kernel) (by decide +kernel)
set_option maxRecDepth 20000 in
theorem gX6_add_X6_append : GoodIn wsX6_add (wsV RX6 64 RX6 yX6_append wsX6_append) := goodIn_app (goodIn_of _ (by decide +kernel)) ggX6_add_X6_append
theorem dX6_add_0 : decode cX6_add 0 = .ok (.iload_n 1, 1) := by decide +kernel
theorem dX6_add_1 : decode cX6_add 1 = .ok (.iconst 1, 1) := by decide +kernel
theorem dX6_add_2 : decode cX6_add 2 = .ok (.sipush 999, 3) := by decide +kernel
theorem dX6_add_5 : decode cX6_add 5 = .ok (.invokestatic 53, 3) := by decide +kernel
theorem dX6_add_8 : decode cX6_add 8 = .ok (.ifCond .eq 37, 3) := by decide +kernel
theorem dX6_add_11 : decode cX6_add 11 = .ok (.iload_n 2, 1) := by decide +kernel
theorem dX6_add_12 : decode cX6_add 12 = .ok (.iconst 1, 1) := by decide +kernel
theorem dX6_add_13 : decode cX6_add 13 = .ok (.sipush 999, 3) := by decide +kernel
theorem dX6_add_16 : decode cX6_add 16 = .ok (.invokestatic 53, 3) := by decide +kernel
theorem dX6_add_19 : decode cX6_add 19 = .ok (.ifCond .eq 26, 3) := by decide +kernel
theorem dX6_add_22 : decode cX6_add 22 = .ok (.iload_n 3, 1) := by decide +kernel
theorem dX6_add_23 : decode cX6_add 23 = .ok (.iconst 0, 1) := by decide +kernel
theorem dX6_add_24 : decode cX6_add 24 = .ok (.sipush 999, 3) := by decide +kernel
theorem dX6_add_27 : decode cX6_add 27 = .ok (.invokestatic 53, 3) := by decide +kernel
theorem dX6_add_30 : decode cX6_add 30 = .ok (.ifCond .eq 15, 3) := by decide +kernel
theorem dX6_add_33 : decode cX6_add 33 = .ok (.iload 4, 2) := by decide +kernel
theorem dX6_add_35 : decode cX6_add 35 = .ok (.iconst 0, 1) := by decide +kernel
theorem dX6_add_36 : decode cX6_add 36 = .ok (.sipush 999, 3) := by decide +kernel
theorem dX6_add_39 : decode cX6_add 39 = .ok (.invokestatic 53, 3) := by decide +kernel
theorem dX6_add_42 : decode cX6_add 42 = .ok (.ifCond .ne 6, 3) := by decide +kernel
theorem dX6_add_45 : decode cX6_add 45 = .ok (.bipush (-2), 2) := by decide +kernel
theorem dX6_add_47 : decode cX6_add 47 = .ok (.ireturn, 1) := by decide +kernel
theorem dX6_add_48 : decode cX6_add 48 = .ok (.aload_n 0, 1) := by decide +kernel
theorem dX6_add_49 : decode cX6_add 49 = .ok (.getfield 7, 3) := by decide +kernel
theorem dX6_add_52 : decode cX6_add 52 = .ok (.iconst 0, 1) := by decide +kernel
theorem dX6_add_53 : decode cX6_add 53 = .ok (.iaload, 1) := by decide +kernel
theorem dX6_add_54 : decode cX6_add 54 = .ok (.bipush 12, 2) := by decide +kernel
theorem dX6_add_56 : decode cX6_add 56 = .ok (.if_icmp .ne 6, 3) := by decide +kernel
theorem dX6_add_59 : decode cX6_add 59 = .ok (.bipush (-4), 2) := by decide +kernel
theorem dX6_add_61 : decode cX6_add 61 = .ok (.ireturn, 1) := by decide +kernel
theorem dX6_add_62 : decode cX6_add 62 = .ok (.aload_n 0, 1) := by decide +kernel
theorem dX6_add_63 : decode cX6_add 63 = .ok (.invokevirtual 61, 3) := by decide +kernel
theorem dX6_add_66 : decode cX6_add 66 = .ok (.aload_n 0, 1) := by decide +kernel
theorem dX6_add_67 : decode cX6_add 67 = .ok (.iload_n 1, 1) := by decide +kernel
theorem dX6_add_68 : decode cX6_add 68 = .ok (.iload_n 2, 1) := by decide +kernel
theorem dX6_add_69 : decode cX6_add 69 = .ok (.iload_n 3, 1) := by decide +kernel
theorem dX6_add_70 : decode cX6_add 70 = .ok (.iload 4, 2) := by decide +kernel
theorem dX6_add_72 : decode cX6_add 72 = .ok (.bipush (-6), 2) := by decide +kernel
theorem dX6_add_74 : decode cX6_add 74 = .ok (.invokevirtual 64, 3) := by decide +kernel
theorem dX6_add_77 : decode cX6_add 77 = .ok (.aload_n 0, 1) := by decide +kernel
theorem dX6_add_78 : decode cX6_add 78 = .ok (.getfield 7, 3) := by decide +kernel
theorem dX6_add_81 : decode cX6_add 81 = .ok (.iconst 0, 1) := by decide +kernel
theorem dX6_add_82 : decode cX6_add 82 = .ok (.iaload, 1) := by decide +kernel
theorem dX6_add_83 : decode cX6_add 83 = .ok (.iconst 1, 1) := by decide +kernel
theorem dX6_add_84 : decode cX6_add 84 = .ok (.isub, 1) := by decide +kernel
theorem dX6_add_85 : decode cX6_add 85 = .ok (.ireturn, 1) := by decide +kernel
theorem dX6_without_0 : decode cX6_without 0 = .ok (.iload_n 0, 1) := by decide +kernel
theorem dX6_without_1 : decode cX6_without 1 = .ok (.iconst 1, 1) := by decide +kernel
theorem dX6_without_2 : decode cX6_without 2 = .ok (.iload_n 1, 1) := by decide +kernel
theorem dX6_without_3 : decode cX6_without 3 = .ok (.ishl, 1) := by decide +kernel
theorem dX6_without_4 : decode cX6_without 4 = .ok (.iconst 1, 1) := by decide +kernel
theorem dX6_without_5 : decode cX6_without 5 = .ok (.isub, 1) := by decide +kernel
theorem dX6_without_6 : decode cX6_without 6 = .ok (.iand, 1) := by decide +kernel
theorem dX6_without_7 : decode cX6_without 7 = .ok (.istore_n 2, 1) := by decide +kernel
theorem dX6_without_8 : decode cX6_without 8 = .ok (.iload_n 2, 1) := by decide +kernel
theorem dX6_without_9 : decode cX6_without 9 = .ok (.iload_n 0, 1) := by decide +kernel
theorem dX6_without_10 : decode cX6_without 10 = .ok (.iload_n 1, 1) := by decide +kernel
theorem dX6_without_11 : decode cX6_without 11 = .ok (.iconst 1, 1) := by decide +kernel
theorem dX6_without_12 : decode cX6_without 12 = .ok (.iadd, 1) := by decide +kernel
theorem dX6_without_13 : decode cX6_without 13 = .ok (.ishr, 1) := by decide +kernel
theorem dX6_without_14 : decode cX6_without 14 = .ok (.iload_n 1, 1) := by decide +kernel
theorem dX6_without_15 : decode cX6_without 15 = .ok (.ishl, 1) := by decide +kernel
theorem dX6_without_16 : decode cX6_without 16 = .ok (.ior, 1) := by decide +kernel
theorem dX6_without_17 : decode cX6_without 17 = .ok (.ireturn, 1) := by decide +kernel
set_option maxRecDepth 20000 in
theorem ggX6_remove_X6_isItem : GoodIn wsX6_remove wsX6_isItem := goodIn_r _ [6, 1, 7, 8, 5, 9, 23, 24, 25, 26, 27, 28, 29, 30, 31, 32, 33, 34, 35, 36, 37, 38, 39, 40, 41, 42, 43] (by decide +kernel) (by decide +kernel)
set_option maxRecDepth 20000 in
theorem gX6_remove_X6_isItem : GoodIn wsX6_remove (wsV RX6 68 RX6 yX6_isItem wsX6_isItem) := goodIn_app (goodIn_of _ (by decide +kernel)) ggX6_remove_X6_isItem
set_option maxRecDepth 20000 in
theorem ggX6_remove_X6_record : GoodIn wsX6_remove wsX6_record := goodIn_r _ [13, 14, 15, 1, 23, 24, 25, 26, 27, 28, 29, 30, 31, 32, 33, 34, 35, 36, 37, 38, 39, 40, 41, 42, 43] (by decide +kernel) (by decide +kernel)
set_option maxRecDepth 20000 in
theorem gX6_remove_X6_record : GoodIn wsX6_remove (wsV RX6 61 RX6 yX6_record wsX6_record) := goodIn_app (goodIn_of _ (by decide +kernel)) ggX6_remove_X6_record
set_option maxRecDepth 20000 in
theorem ggX6_remove_X6_of : GoodIn wsX6_remove wsX6_of := goodIn_r _ [19, 1, 23, 24, 25, 26, 27, 28, 29, 30, 31, 32, 33, 34, 35, 36, 37, 38, 39, 40, 41, 42, 43] (by decide +kernel) (by decide +kernel)
set_option maxRecDepth 20000 in
theorem gX6_remove_X6_of : GoodIn wsX6_remove (wsV RX6 72 RX6 yX6_of wsX6_of) := goodIn_app (goodIn_of _ (by decide +kernel)) ggX6_remove_X6_of
set_option maxRecDepth 20000 in
theorem ggX6_remove_X6_without : GoodIn wsX6_remove wsX6_without := goodIn_r _ [22] (by decide +kernel) (by decide +kernel)
set_option maxRecDepth 20000 in
theorem gX6_remove_X6_without : GoodIn wsX6_remove (va_wsS RX6 76 yX6_without wsX6_without) := goodIn_app (goodIn_of _ (by decide +kernel)) ggX6_remove_X6_without
theorem dX6_remove_0 : decode cX6_remove 0 = .ok (.aload_n 0, 1) := by decide +kernel
theorem dX6_remove_1 : decode cX6_remove 1 = .ok (.iload_n 1, 1) := by decide +kernel
theorem dX6_remove_2 : decode cX6_remove 2 = .ok (.invokevirtual 68, 3) := by decide +kernel
theorem dX6_remove_5 : decode cX6_remove 5 = .ok (.ifCond .ne 5, 3) := by decide +kernel
theorem dX6_remove_8 : decode cX6_remove 8 = .ok (.iconst (-1), 1) := by decide +kernel
theorem dX6_remove_9 : decode cX6_remove 9 = .ok (.ireturn, 1) := by decide +kernel
theorem dX6_remove_10 : decode cX6_remove 10 = .ok (.aload_n 0, 1) := by decide +kernel
theorem dX6_remove_11 : decode cX6_remove 11 = .ok (.invokevirtual 61, 3) := by decide +kernel
theorem dX6_remove_14 : decode cX6_remove 14 = .ok (.aload_n 0, 1) := by decide +kernel
theorem dX6_remove_15 : decode cX6_remove 15 = .ok (.getfield 7, 3) := by decide +kernel
theorem dX6_remove_18 : decode cX6_remove 18 = .ok (.iconst 0, 1) := by decide +kernel
theorem dX6_remove_19 : decode cX6_remove 19 = .ok (.dup2, 1) := by decide +kernel
theorem dX6_remove_20 : decode cX6_remove 20 = .ok (.iaload, 1) := by decide +kernel
theorem dX6_remove_21 : decode cX6_remove 21 = .ok (.iconst 1, 1) := by decide +kernel
theorem dX6_remove_22 : decode cX6_remove 22 = .ok (.isub, 1) := by decide +kernel
theorem dX6_remove_23 : decode cX6_remove 23 = .ok (.iastore, 1) := by decide +kernel
theorem dX6_remove_24 : decode cX6_remove 24 = .ok (.iload_n 1, 1) := by decide +kernel
theorem dX6_remove_25 : decode cX6_remove 25 = .ok (.istore_n 2, 1) := by decide +kernel
theorem dX6_remove_26 : decode cX6_remove 26 = .ok (.iload_n 2, 1) := by decide +kernel
theorem dX6_remove_27 : decode cX6_remove 27 = .ok (.aload_n 0, 1) := by decide +kernel
theorem dX6_remove_28 : decode cX6_remove 28 = .ok (.getfield 7, 3) := by decide +kernel
theorem dX6_remove_31 : decode cX6_remove 31 = .ok (.iconst 0, 1) := by decide +kernel
theorem dX6_remove_32 : decode cX6_remove 32 = .ok (.iaload, 1) := by decide +kernel
theorem dX6_remove_33 : decode cX6_remove 33 = .ok (.if_icmp .ge 82, 3) := by decide +kernel
theorem dX6_remove_36 : decode cX6_remove 36 = .ok (.iconst 0, 1) := by decide +kernel
theorem dX6_remove_37 : decode cX6_remove 37 = .ok (.istore_n 3, 1) := by decide +kernel
theorem dX6_remove_38 : decode cX6_remove 38 = .ok (.iload_n 3, 1) := by decide +kernel
theorem dX6_remove_39 : decode cX6_remove 39 = .ok (.iconst 5, 1) := by decide +kernel
theorem dX6_remove_40 : decode cX6_remove 40 = .ok (.if_icmp .ge 29, 3) := by decide +kernel
theorem dX6_remove_43 : decode cX6_remove 43 = .ok (.aload_n 0, 1) := by decide +kernel
theorem dX6_remove_44 : decode cX6_remove 44 = .ok (.getfield 7, 3) := by decide +kernel
theorem dX6_remove_47 : decode cX6_remove 47 = .ok (.iconst 4, 1) := by decide +kernel
theorem dX6_remove_48 : decode cX6_remove 48 = .ok (.iconst 5, 1) := by decide +kernel
theorem dX6_remove_49 : decode cX6_remove 49 = .ok (.iload_n 2, 1) := by decide +kernel
theorem dX6_remove_50 : decode cX6_remove 50 = .ok (.imul, 1) := by decide +kernel
theorem dX6_remove_51 : decode cX6_remove 51 = .ok (.iadd, 1) := by decide +kernel
theorem dX6_remove_52 : decode cX6_remove 52 = .ok (.iload_n 3, 1) := by decide +kernel
theorem dX6_remove_53 : decode cX6_remove 53 = .ok (.iadd, 1) := by decide +kernel
theorem dX6_remove_54 : decode cX6_remove 54 = .ok (.aload_n 0, 1) := by decide +kernel
theorem dX6_remove_55 : decode cX6_remove 55 = .ok (.iload_n 2, 1) := by decide +kernel
theorem dX6_remove_56 : decode cX6_remove 56 = .ok (.iconst 1, 1) := by decide +kernel
theorem dX6_remove_57 : decode cX6_remove 57 = .ok (.iadd, 1) := by decide +kernel
theorem dX6_remove_58 : decode cX6_remove 58 = .ok (.iload_n 3, 1) := by decide +kernel
theorem dX6_remove_59 : decode cX6_remove 59 = .ok (.invokevirtual 72, 3) := by decide +kernel
theorem dX6_remove_62 : decode cX6_remove 62 = .ok (.iastore, 1) := by decide +kernel
theorem dX6_remove_63 : decode cX6_remove 63 = .ok (.iinc 3 1, 3) := by decide +kernel
theorem dX6_remove_66 : decode cX6_remove 66 = .ok (.goto (-28), 3) := by decide +kernel
theorem dX6_remove_69 : decode cX6_remove 69 = .ok (.aload_n 0, 1) := by decide +kernel
theorem dX6_remove_70 : decode cX6_remove 70 = .ok (.getfield 7, 3) := by decide +kernel
theorem dX6_remove_73 : decode cX6_remove 73 = .ok (.bipush 64, 2) := by decide +kernel
theorem dX6_remove_75 : decode cX6_remove 75 = .ok (.iload_n 2, 1) := by decide +kernel
theorem dX6_remove_76 : decode cX6_remove 76 = .ok (.iadd, 1) := by decide +kernel
theorem dX6_remove_77 : decode cX6_remove 77 = .ok (.aload_n 0, 1) := by decide +kernel
theorem dX6_remove_78 : decode cX6_remove 78 = .ok (.getfield 7, 3) := by decide +kernel
theorem dX6_remove_81 : decode cX6_remove 81 = .ok (.bipush 64, 2) := by decide +kernel
theorem dX6_remove_83 : decode cX6_remove 83 = .ok (.iload_n 2, 1) := by decide +kernel
theorem dX6_remove_84 : decode cX6_remove 84 = .ok (.iadd, 1) := by decide +kernel
theorem dX6_remove_85 : decode cX6_remove 85 = .ok (.iconst 1, 1) := by decide +kernel
theorem dX6_remove_86 : decode cX6_remove 86 = .ok (.iadd, 1) := by decide +kernel
theorem dX6_remove_87 : decode cX6_remove 87 = .ok (.iaload, 1) := by decide +kernel
theorem dX6_remove_88 : decode cX6_remove 88 = .ok (.iastore, 1) := by decide +kernel
theorem dX6_remove_89 : decode cX6_remove 89 = .ok (.aload_n 0, 1) := by decide +kernel
theorem dX6_remove_90 : decode cX6_remove 90 = .ok (.getfield 7, 3) := by decide +kernel
theorem dX6_remove_93 : decode cX6_remove 93 = .ok (.bipush 76, 2) := by decide +kernel
theorem dX6_remove_95 : decode cX6_remove 95 = .ok (.iload_n 2, 1) := by decide +kernel
theorem dX6_remove_96 : decode cX6_remove 96 = .ok (.iadd, 1) := by decide +kernel
theorem dX6_remove_97 : decode cX6_remove 97 = .ok (.aload_n 0, 1) := by decide +kernel
theorem dX6_remove_98 : decode cX6_remove 98 = .ok (.getfield 7, 3) := by decide +kernel
theorem dX6_remove_101 : decode cX6_remove 101 = .ok (.bipush 76, 2) := by decide +kernel
theorem dX6_remove_103 : decode cX6_remove 103 = .ok (.iload_n 2, 1) := by decide +kernel
theorem dX6_remove_104 : decode cX6_remove 104 = .ok (.iadd, 1) := by decide +kernel
theorem dX6_remove_105 : decode cX6_remove 105 = .ok (.iconst 1, 1) := by decide +kernel
theorem dX6_remove_106 : decode cX6_remove 106 = .ok (.iadd, 1) := by decide +kernel
theorem dX6_remove_107 : decode cX6_remove 107 = .ok (.iaload, 1) := by decide +kernel
theorem dX6_remove_108 : decode cX6_remove 108 = .ok (.iastore, 1) := by decide +kernel
theorem dX6_remove_109 : decode cX6_remove 109 = .ok (.iinc 2 1, 3) := by decide +kernel
theorem dX6_remove_112 : decode cX6_remove 112 = .ok (.goto (-86), 3) := by decide +kernel
theorem dX6_remove_115 : decode cX6_remove 115 = .ok (.iconst 0, 1) := by decide +kernel
theorem dX6_remove_116 : decode cX6_remove 116 = .ok (.istore_n 2, 1) := by decide +kernel
theorem dX6_remove_117 : decode cX6_remove 117 = .ok (.iload_n 2, 1) := by decide +kernel
theorem dX6_remove_118 : decode cX6_remove 118 = .ok (.aload_n 0, 1) := by decide +kernel
theorem dX6_remove_119 : decode cX6_remove 119 = .ok (.getfield 7, 3) := by decide +kernel
theorem dX6_remove_122 : decode cX6_remove 122 = .ok (.iconst 0, 1) := by decide +kernel
theorem dX6_remove_123 : decode cX6_remove 123 = .ok (.iaload, 1) := by decide +kernel
theorem dX6_remove_124 : decode cX6_remove 124 = .ok (.if_icmp .ge 53, 3) := by decide +kernel
theorem dX6_remove_127 : decode cX6_remove 127 = .ok (.aload_n 0, 1) := by decide +kernel
theorem dX6_remove_128 : decode cX6_remove 128 = .ok (.getfield 7, 3) := by decide +kernel
theorem dX6_remove_131 : decode cX6_remove 131 = .ok (.bipush 64, 2) := by decide +kernel
theorem dX6_remove_133 : decode cX6_remove 133 = .ok (.iload_n 2, 1) := by decide +kernel
theorem dX6_remove_134 : decode cX6_remove 134 = .ok (.iadd, 1) := by decide +kernel
theorem dX6_remove_135 : decode cX6_remove 135 = .ok (.aload_n 0, 1) := by decide +kernel
theorem dX6_remove_136 : decode cX6_remove 136 = .ok (.getfield 7, 3) := by decide +kernel
theorem dX6_remove_139 : decode cX6_remove 139 = .ok (.bipush 64, 2) := by decide +kernel
theorem dX6_remove_141 : decode cX6_remove 141 = .ok (.iload_n 2, 1) := by decide +kernel
theorem dX6_remove_142 : decode cX6_remove 142 = .ok (.iadd, 1) := by decide +kernel
theorem dX6_remove_143 : decode cX6_remove 143 = .ok (.iaload, 1) := by decide +kernel
theorem dX6_remove_144 : decode cX6_remove 144 = .ok (.iload_n 1, 1) := by decide +kernel
theorem dX6_remove_145 : decode cX6_remove 145 = .ok (.invokestatic 76, 3) := by decide +kernel
theorem dX6_remove_148 : decode cX6_remove 148 = .ok (.iastore, 1) := by decide +kernel
theorem dX6_remove_149 : decode cX6_remove 149 = .ok (.aload_n 0, 1) := by decide +kernel
theorem dX6_remove_150 : decode cX6_remove 150 = .ok (.getfield 7, 3) := by decide +kernel
theorem dX6_remove_153 : decode cX6_remove 153 = .ok (.bipush 76, 2) := by decide +kernel
theorem dX6_remove_155 : decode cX6_remove 155 = .ok (.iload_n 2, 1) := by decide +kernel
theorem dX6_remove_156 : decode cX6_remove 156 = .ok (.iadd, 1) := by decide +kernel
theorem dX6_remove_157 : decode cX6_remove 157 = .ok (.aload_n 0, 1) := by decide +kernel
theorem dX6_remove_158 : decode cX6_remove 158 = .ok (.getfield 7, 3) := by decide +kernel
theorem dX6_remove_161 : decode cX6_remove 161 = .ok (.bipush 76, 2) := by decide +kernel
theorem dX6_remove_163 : decode cX6_remove 163 = .ok (.iload_n 2, 1) := by decide +kernel
theorem dX6_remove_164 : decode cX6_remove 164 = .ok (.iadd, 1) := by decide +kernel
theorem dX6_remove_165 : decode cX6_remove 165 = .ok (.iaload, 1) := by decide +kernel
theorem dX6_remove_166 : decode cX6_remove 166 = .ok (.iload_n 1, 1) := by decide +kernel
theorem dX6_remove_167 : decode cX6_remove 167 = .ok (.invokestatic 76, 3) := by decide +kernel
theorem dX6_remove_170 : decode cX6_remove 170 = .ok (.iastore, 1) := by decide +kernel
theorem dX6_remove_171 : decode cX6_remove 171 = .ok (.iinc 2 1, 3) := by decide +kernel
theorem dX6_remove_174 : decode cX6_remove 174 = .ok (.goto (-57), 3) := by decide +kernel
theorem dX6_remove_177 : decode cX6_remove 177 = .ok (.aload_n 0, 1) := by decide +kernel
theorem dX6_remove_178 : decode cX6_remove 178 = .ok (.getfield 7, 3) := by decide +kernel
theorem dX6_remove_181 : decode cX6_remove 181 = .ok (.iconst 0, 1) := by decide +kernel
theorem dX6_remove_182 : decode cX6_remove 182 = .ok (.iaload, 1) := by decide +kernel
theorem dX6_remove_183 : decode cX6_remove 183 = .ok (.ireturn, 1) := by decide +kernel
set_option maxRecDepth 20000 in
theorem ggX6_isProperty_X6_in : GoodIn wsX6_isProperty wsX6_in := goodIn_r _ [4] (by decide +kernel) (by decide +kernel)
set_option maxRecDepth 20000 in
theorem gX6_isProperty_X6_in : GoodIn wsX6_isProperty (va_wsS RX6 53 yX6_in wsX6_in) := goodIn_app (goodIn_of _ (by decide +kernel)) ggX6_isProperty_X6_in
theorem dX6_isProperty_0 : decode cX6_isProperty 0 = .ok (.iload_n 0, 1) := by decide +kernel
theorem dX6_isProperty_1 : decode cX6_isProperty 1 = .ok (.tableswitch 49 0 3 #[31, 31, 40, 40], 31) := by decide +kernel
theorem dX6_isProperty_32 : decode cX6_isProperty 32 = .ok (.iload_n 1, 1) := by decide +kernel
theorem dX6_isProperty_33 : decode cX6_isProperty 33 = .ok (.iconst 1, 1) := by decide +kernel
theorem dX6_isProperty_34 : decode cX6_isProperty 34 = .ok (.sipush 999, 3) := by decide +kernel
theorem dX6_isProperty_37 : decode cX6_isProperty 37 = .ok (.invokestatic 53, 3) := by decide +kernel
theorem dX6_isProperty_40 : decode cX6_isProperty 40 = .ok (.ireturn, 1) := by decide +kernel
theorem dX6_isProperty_41 : decode cX6_isProperty 41 = .ok (.iload_n 1, 1) := by decide +kernel
theorem dX6_isProperty_42 : decode cX6_isProperty 42 = .ok (.iconst 0, 1) := by decide +kernel
theorem dX6_isProperty_43 : decode cX6_isProperty 43 = .ok (.sipush 999, 3) := by decide +kernel
theorem dX6_isProperty_46 : decode cX6_isProperty 46 = .ok (.invokestatic 53, 3) := by decide +kernel
theorem dX6_isProperty_49 : decode cX6_isProperty 49 = .ok (.ireturn, 1) := by decide +kernel
theorem dX6_isProperty_50 : decode cX6_isProperty 50 = .ok (.iload_n 0, 1) := by decide +kernel
theorem dX6_isProperty_51 : decode cX6_isProperty 51 = .ok (.iconst 4, 1) := by decide +kernel
theorem dX6_isProperty_52 : decode cX6_isProperty 52 = .ok (.if_icmp .ne 16, 3) := by decide +kernel
theorem dX6_isProperty_55 : decode cX6_isProperty 55 = .ok (.iload_n 1, 1) := by decide +kernel
theorem dX6_isProperty_56 : decode cX6_isProperty 56 = .ok (.iconst (-1), 1) := by decide +kernel
theorem dX6_isProperty_57 : decode cX6_isProperty 57 = .ok (.iconst 3, 1) := by decide +kernel
theorem dX6_isProperty_58 : decode cX6_isProperty 58 = .ok (.invokestatic 53, 3) := by decide +kernel
theorem dX6_isProperty_61 : decode cX6_isProperty 61 = .ok (.ifCond .eq 7, 3) := by decide +kernel
theorem dX6_isProperty_64 : decode cX6_isProperty 64 = .ok (.iconst 1, 1) := by decide +kernel
theorem dX6_isProperty_65 : decode cX6_isProperty 65 = .ok (.goto 4, 3) := by decide +kernel
theorem dX6_isProperty_68 : decode cX6_isProperty 68 = .ok (.iconst 0, 1) := by decide +kernel
theorem dX6_isProperty_69 : decode cX6_isProperty 69 = .ok (.ireturn, 1) := by decide +kernel
set_option maxRecDepth 20000 in
theorem ggX6_set_X6_isItem : GoodIn wsX6_set wsX6_isItem := goodIn_r _ [6, 1, 7, 8, 5, 9, 23, 24, 25, 26, 27, 28, 29, 30, 31, 32, 33, 34, 35, 36, 37, 38, 39, 40, 41, 42, 43] (by decide +kernel) (by decide +kernel)
set_option maxRecDepth 20000 in
theorem gX6_set_X6_isItem : GoodIn wsX6_set (wsV RX6 68 RX6 yX6_isItem wsX6_isItem) := goodIn_app (goodIn_of _ (by decide +kernel)) ggX6_set_X6_isItem
set_option maxRecDepth 20000 in
theorem ggX6_set_X6_isProperty : GoodIn wsX6_set wsX6_isProperty := goodIn_r _ [12, 7, 8, 5, 9] (by decide +kernel) (by decide +kernel)
set_option maxRecDepth 20000 in
theorem gX6_set_X6_isProperty : GoodIn wsX6_set (va_wsS RX6 79 yX6_isProperty wsX6_isProperty) := goodIn_app (goodIn_of _ (by decide +kernel)) ggX6_set_X6_isProperty
set_option maxRecDepth 20000 in
theorem ggX6_set_X6_record : GoodIn wsX6_set wsX6_record := goodIn_r _ [16, 17, 18, 1, 23, 24, 25, 26, 27, 28, 29, 30, 31, 32, 33, 34, 35, 36, 37, 38, 39, 40, 41, 42, 43] (by decide +kernel) (by decide +kernel)
set_option maxRecDepth 20000 in
theorem gX6_set_X6_record : GoodIn wsX6_set (wsV RX6 61 RX6 yX6_record wsX6_record) := goodIn_app (goodIn_of _ (by decide +kernel)) ggX6_set_X6_record
set_option maxRecDepth 20000 in
theorem ggX6_set_X6_of : GoodIn wsX6_set wsX6_of := goodIn_r _ [22, 1, 23, 24, 25, 26, 27, 28, 29, 30, 31, 32, 33, 34, 35, 36, 37, 38, 39, 40, 41, 42, 43] (by decide +kernel) (by decide +kernel)
set_option maxRecDepth 20000 in
theorem gX6_set_X6_of : GoodIn wsX6_set (wsV RX6 72 RX6 yX6_of wsX6_of) := goodIn_app (goodIn_of _ (by decide +kernel)) ggX6_set_X6_of
theorem dX6_set_0 : decode cX6_set 0 = .ok (.aload_n 0, 1) := by decide +kernel
theorem dX6_set_1 : decode cX6_set 1 = .ok (.iload_n 1, 1) := by decide +kernel
theorem dX6_set_2 : decode cX6_set 2 = .ok (.invokevirtual 68, 3) := by decide +kernel
theorem dX6_set_5 : decode cX6_set 5 = .ok (.ifCond .ne 5, 3) := by decide +kernel
theorem dX6_set_8 : decode cX6_set 8 = .ok (.iconst (-1), 1) := by decide +kernel
theorem dX6_set_9 : decode cX6_set 9 = .ok (.ireturn, 1) := by decide +kernel
theorem dX6_set_10 : decode cX6_set 10 = .ok (.iload_n 2, 1) := by decide +kernel
theorem dX6_set_11 : decode cX6_set 11 = .ok (.iload_n 3, 1) := by decide +kernel
theorem dX6_set_12 : decode cX6_set 12 = .ok (.invokestatic 79, 3) := by decide +kernel
theorem dX6_set_15 : decode cX6_set 15 = .ok (.ifCond .ne 6, 3) := by decide +kernel
theorem dX6_set_18 : decode cX6_set 18 = .ok (.bipush (-2), 2) := by decide +kernel
theorem dX6_set_20 : decode cX6_set 20 = .ok (.ireturn, 1) := by decide +kernel
theorem dX6_set_21 : decode cX6_set 21 = .ok (.aload_n 0, 1) := by decide +kernel
theorem dX6_set_22 : decode cX6_set 22 = .ok (.invokevirtual 61, 3) := by decide +kernel
theorem dX6_set_25 : decode cX6_set 25 = .ok (.aload_n 0, 1) := by decide +kernel
theorem dX6_set_26 : decode cX6_set 26 = .ok (.iload_n 1, 1) := by decide +kernel
theorem dX6_set_27 : decode cX6_set 27 = .ok (.iload_n 2, 1) := by decide +kernel
theorem dX6_set_28 : decode cX6_set 28 = .ok (.invokevirtual 72, 3) := by decide +kernel
theorem dX6_set_31 : decode cX6_set 31 = .ok (.istore 4, 2) := by decide +kernel
theorem dX6_set_33 : decode cX6_set 33 = .ok (.aload_n 0, 1) := by decide +kernel
theorem dX6_set_34 : decode cX6_set 34 = .ok (.getfield 7, 3) := by decide +kernel
theorem dX6_set_37 : decode cX6_set 37 = .ok (.iconst 4, 1) := by decide +kernel
theorem dX6_set_38 : decode cX6_set 38 = .ok (.iconst 5, 1) := by decide +kernel
theorem dX6_set_39 : decode cX6_set 39 = .ok (.iload_n 1, 1) := by decide +kernel
theorem dX6_set_40 : decode cX6_set 40 = .ok (.imul, 1) := by decide +kernel
theorem dX6_set_41 : decode cX6_set 41 = .ok (.iadd, 1) := by decide +kernel
theorem dX6_set_42 : decode cX6_set 42 = .ok (.iload_n 2, 1) := by decide +kernel
theorem dX6_set_43 : decode cX6_set 43 = .ok (.iadd, 1) := by decide +kernel
theorem dX6_set_44 : decode cX6_set 44 = .ok (.iload_n 3, 1) := by decide +kernel
theorem dX6_set_45 : decode cX6_set 45 = .ok (.ifCond .ge 8, 3) := by decide +kernel
theorem dX6_set_48 : decode cX6_set 48 = .ok (.bipush (-6), 2) := by decide +kernel
theorem dX6_set_50 : decode cX6_set 50 = .ok (.goto 4, 3) := by decide +kernel
theorem dX6_set_53 : decode cX6_set 53 = .ok (.iload_n 3, 1) := by decide +kernel
theorem dX6_set_54 : decode cX6_set 54 = .ok (.iastore, 1) := by decide +kernel
theorem dX6_set_55 : decode cX6_set 55 = .ok (.iload 4, 2) := by decide +kernel
theorem dX6_set_57 : decode cX6_set 57 = .ok (.ireturn, 1) := by decide +kernel
set_option maxRecDepth 20000 in
theorem ggX6_neededBy_X6_has : GoodIn wsX6_neededBy wsX6_has := goodIn_r _ [5] (by decide +kernel) (by decide +kernel)
set_option maxRecDepth 20000 in
theorem gX6_neededBy_X6_has : GoodIn wsX6_neededBy (va_wsS RX6 83 yX6_has wsX6_has) := goodIn_app (goodIn_of _ (by decide +kernel)) ggX6_neededBy_X6_has
theorem dX6_neededBy_0 : decode cX6_neededBy 0 = .ok (.iconst 0, 1) := by decide +kernel
theorem dX6_neededBy_1 : decode cX6_neededBy 1 = .ok (.istore_n 2, 1) := by decide +kernel
theorem dX6_neededBy_2 : decode cX6_neededBy 2 = .ok (.iconst 0, 1) := by decide +kernel
theorem dX6_neededBy_3 : decode cX6_neededBy 3 = .ok (.istore_n 3, 1) := by decide +kernel
theorem dX6_neededBy_4 : decode cX6_neededBy 4 = .ok (.iload_n 3, 1) := by decide +kernel
theorem dX6_neededBy_5 : decode cX6_neededBy 5 = .ok (.aload_n 0, 1) := by decide +kernel
theorem dX6_neededBy_6 : decode cX6_neededBy 6 = .ok (.getfield 7, 3) := by decide +kernel
theorem dX6_neededBy_9 : decode cX6_neededBy 9 = .ok (.iconst 0, 1) := by decide +kernel
theorem dX6_neededBy_10 : decode cX6_neededBy 10 = .ok (.iaload, 1) := by decide +kernel
theorem dX6_neededBy_11 : decode cX6_neededBy 11 = .ok (.if_icmp .ge 35, 3) := by decide +kernel
theorem dX6_neededBy_14 : decode cX6_neededBy 14 = .ok (.iload_n 2, 1) := by decide +kernel
theorem dX6_neededBy_15 : decode cX6_neededBy 15 = .ok (.aload_n 0, 1) := by decide +kernel
theorem dX6_neededBy_16 : decode cX6_neededBy 16 = .ok (.getfield 7, 3) := by decide +kernel
theorem dX6_neededBy_19 : decode cX6_neededBy 19 = .ok (.bipush 76, 2) := by decide +kernel
theorem dX6_neededBy_21 : decode cX6_neededBy 21 = .ok (.iload_n 3, 1) := by decide +kernel
theorem dX6_neededBy_22 : decode cX6_neededBy 22 = .ok (.iadd, 1) := by decide +kernel
theorem dX6_neededBy_23 : decode cX6_neededBy 23 = .ok (.iaload, 1) := by decide +kernel
theorem dX6_neededBy_24 : decode cX6_neededBy 24 = .ok (.iload_n 1, 1) := by decide +kernel
theorem dX6_neededBy_25 : decode cX6_neededBy 25 = .ok (.invokestatic 83, 3) := by decide +kernel
theorem dX6_neededBy_28 : decode cX6_neededBy 28 = .ok (.ifCond .eq 9, 3) := by decide +kernel
theorem dX6_neededBy_31 : decode cX6_neededBy 31 = .ok (.iconst 1, 1) := by decide +kernel
theorem dX6_neededBy_32 : decode cX6_neededBy 32 = .ok (.iload_n 3, 1) := by decide +kernel
theorem dX6_neededBy_33 : decode cX6_neededBy 33 = .ok (.ishl, 1) := by decide +kernel
theorem dX6_neededBy_34 : decode cX6_neededBy 34 = .ok (.goto 4, 3) := by decide +kernel
theorem dX6_neededBy_37 : decode cX6_neededBy 37 = .ok (.iconst 0, 1) := by decide +kernel
theorem dX6_neededBy_38 : decode cX6_neededBy 38 = .ok (.ior, 1) := by decide +kernel
theorem dX6_neededBy_39 : decode cX6_neededBy 39 = .ok (.istore_n 2, 1) := by decide +kernel
theorem dX6_neededBy_40 : decode cX6_neededBy 40 = .ok (.iinc 3 1, 3) := by decide +kernel
theorem dX6_neededBy_43 : decode cX6_neededBy 43 = .ok (.goto (-39), 3) := by decide +kernel
theorem dX6_neededBy_46 : decode cX6_neededBy 46 = .ok (.iload_n 2, 1) := by decide +kernel
theorem dX6_neededBy_47 : decode cX6_neededBy 47 = .ok (.ireturn, 1) := by decide +kernel
set_option maxRecDepth 20000 in
theorem ggX6_item_X6_isItem : GoodIn wsX6_item wsX6_isItem := goodIn_r _ [6, 1, 7, 8, 5, 9, 21, 22, 23, 24, 25, 26, 27, 28, 29, 30, 31, 32, 33, 34, 35, 36, 37, 38, 39, 40, 41] (by decide +kernel) (by decide +kernel)
set_option maxRecDepth 20000 in
theorem gX6_item_X6_isItem : GoodIn wsX6_item (wsV RX6 68 RX6 yX6_isItem wsX6_isItem) := goodIn_app (goodIn_of _ (by decide +kernel)) ggX6_item_X6_isItem
set_option maxRecDepth 20000 in
theorem ggX6_item_X6_of : GoodIn wsX6_item wsX6_of := goodIn_r _ [13, 1, 21, 22, 23, 24, 25, 26, 27, 28, 29, 30, 31, 32, 33, 34, 35, 36, 37, 38, 39, 40, 41] (by decide +kernel) (by decide +kernel)
set_option maxRecDepth 20000 in
theorem gX6_item_X6_of : GoodIn wsX6_item (wsV RX6 72 RX6 yX6_of wsX6_of) := goodIn_app (goodIn_of _ (by decide +kernel)) ggX6_item_X6_of
set_option maxRecDepth 20000 in
theorem ggX6_item_X6_neededBy : GoodIn wsX6_item wsX6_neededBy := goodIn_r _ [17, 1, 18, 19, 5, 20, 21, 22, 23, 24, 25, 26, 27, 28, 29, 30, 31, 32, 33, 34, 35, 36, 37, 38, 39, 40, 41] (by decide +kernel) (by decide +kernel)
set_option maxRecDepth 20000 in
theorem gX6_item_X6_neededBy : GoodIn wsX6_item (wsV RX6 86 RX6 yX6_neededBy wsX6_neededBy) := goodIn_app (goodIn_of _ (by decide +kernel)) ggX6_item_X6_neededBy
theorem dX6_item_0 : decode cX6_item 0 = .ok (.aload_n 0, 1) := by decide +kernel
theorem dX6_item_1 : decode cX6_item 1 = .ok (.iload_n 1, 1) := by decide +kernel
theorem dX6_item_2 : decode cX6_item 2 = .ok (.invokevirtual 68, 3) := by decide +kernel
theorem dX6_item_5 : decode cX6_item 5 = .ok (.ifCond .ne 5, 3) := by decide +kernel
theorem dX6_item_8 : decode cX6_item 8 = .ok (.iconst (-1), 1) := by decide +kernel
theorem dX6_item_9 : decode cX6_item 9 = .ok (.ireturn, 1) := by decide +kernel
theorem dX6_item_10 : decode cX6_item 10 = .ok (.iload_n 2, 1) := by decide +kernel
theorem dX6_item_11 : decode cX6_item 11 = .ok (.tableswitch 78 0 7 #[45, 45, 45, 45, 45, 52, 62, 72], 45) := by decide +kernel
theorem dX6_item_56 : decode cX6_item 56 = .ok (.aload_n 0, 1) := by decide +kernel
theorem dX6_item_57 : decode cX6_item 57 = .ok (.iload_n 1, 1) := by decide +kernel
theorem dX6_item_58 : decode cX6_item 58 = .ok (.iload_n 2, 1) := by decide +kernel
theorem dX6_item_59 : decode cX6_item 59 = .ok (.invokevirtual 72, 3) := by decide +kernel
theorem dX6_item_62 : decode cX6_item 62 = .ok (.ireturn, 1) := by decide +kernel
theorem dX6_item_63 : decode cX6_item 63 = .ok (.aload_n 0, 1) := by decide +kernel
theorem dX6_item_64 : decode cX6_item 64 = .ok (.getfield 7, 3) := by decide +kernel
theorem dX6_item_67 : decode cX6_item 67 = .ok (.bipush 64, 2) := by decide +kernel
theorem dX6_item_69 : decode cX6_item 69 = .ok (.iload_n 1, 1) := by decide +kernel
theorem dX6_item_70 : decode cX6_item 70 = .ok (.iadd, 1) := by decide +kernel
theorem dX6_item_71 : decode cX6_item 71 = .ok (.iaload, 1) := by decide +kernel
theorem dX6_item_72 : decode cX6_item 72 = .ok (.ireturn, 1) := by decide +kernel
theorem dX6_item_73 : decode cX6_item 73 = .ok (.aload_n 0, 1) := by decide +kernel
theorem dX6_item_74 : decode cX6_item 74 = .ok (.getfield 7, 3) := by decide +kernel
theorem dX6_item_77 : decode cX6_item 77 = .ok (.bipush 76, 2) := by decide +kernel
theorem dX6_item_79 : decode cX6_item 79 = .ok (.iload_n 1, 1) := by decide +kernel
theorem dX6_item_80 : decode cX6_item 80 = .ok (.iadd, 1) := by decide +kernel
theorem dX6_item_81 : decode cX6_item 81 = .ok (.iaload, 1) := by decide +kernel
theorem dX6_item_82 : decode cX6_item 82 = .ok (.ireturn, 1) := by decide +kernel
theorem dX6_item_83 : decode cX6_item 83 = .ok (.aload_n 0, 1) := by decide +kernel
theorem dX6_item_84 : decode cX6_item 84 = .ok (.iload_n 1, 1) := by decide +kernel
theorem dX6_item_85 : decode cX6_item 85 = .ok (.invokevirtual 86, 3) := by decide +kernel
theorem dX6_item_88 : decode cX6_item 88 = .ok (.ireturn, 1) := by decide +kernel
theorem dX6_item_89 : decode cX6_item 89 = .ok (.bipush (-2), 2) := by decide +kernel
theorem dX6_item_91 : decode cX6_item 91 = .ok (.ireturn, 1) := by decide +kernel
set_option maxRecDepth 20000 in
theorem ggX6_conflict_X6_isItem : GoodIn wsX6_conflict wsX6_isItem := goodIn_r _ [6, 1, 7, 8, 5, 9, 16, 17, 18, 19, 20, 21, 22, 23, 24, 25, 26, 27, 28, 29, 30, 31, 32, 33, 34, 35, 36] (by decide +kernel) (by decide +kernel)
set_option maxRecDepth 20000 in
theorem gX6_conflict_X6_isItem : GoodIn wsX6_conflict (wsV RX6 68 RX6 yX6_isItem wsX6_isItem) := goodIn_app (goodIn_of _ (by decide +kernel)) ggX6_conflict_X6_isItem
set_option maxRecDepth 20000 in
theorem ggX6_conflict_X6_record : GoodIn wsX6_conflict wsX6_record := goodIn_r _ [13, 14, 15, 1, 16, 17, 18, 19, 20, 21, 22, 23, 24, 25, 26, 27, 28, 29, 30, 31, 32, 33, 34, 35, 36] (by decide +kernel) (by decide +kernel)
set_option maxRecDepth 20000 in
theorem gX6_conflict_X6_record : GoodIn wsX6_conflict (wsV RX6 61 RX6 yX6_record wsX6_record) := goodIn_app (goodIn_of _ (by decide +kernel)) ggX6_conflict_X6_record
theorem dX6_conflict_0 : decode cX6_conflict 0 = .ok (.aload_n 0, 1) := by decide +kernel
theorem dX6_conflict_1 : decode cX6_conflict 1 = .ok (.iload_n 1, 1) := by decide +kernel
theorem dX6_conflict_2 : decode cX6_conflict 2 = .ok (.invokevirtual 68, 3) := by decide +kernel
theorem dX6_conflict_5 : decode cX6_conflict 5 = .ok (.ifCond .eq 11, 3) := by decide +kernel
theorem dX6_conflict_8 : decode cX6_conflict 8 = .ok (.aload_n 0, 1) := by decide +kernel
theorem dX6_conflict_9 : decode cX6_conflict 9 = .ok (.iload_n 2, 1) := by decide +kernel
theorem dX6_conflict_10 : decode cX6_conflict 10 = .ok (.invokevirtual 68, 3) := by decide +kernel
theorem dX6_conflict_13 : decode cX6_conflict 13 = .ok (.ifCond .ne 5, 3) := by decide +kernel
theorem dX6_conflict_16 : decode cX6_conflict 16 = .ok (.iconst (-1), 1) := by decide +kernel
theorem dX6_conflict_17 : decode cX6_conflict 17 = .ok (.ireturn, 1) := by decide +kernel
theorem dX6_conflict_18 : decode cX6_conflict 18 = .ok (.iload_n 1, 1) := by decide +kernel
theorem dX6_conflict_19 : decode cX6_conflict 19 = .ok (.iload_n 2, 1) := by decide +kernel
theorem dX6_conflict_20 : decode cX6_conflict 20 = .ok (.if_icmp .ne 6, 3) := by decide +kernel
theorem dX6_conflict_23 : decode cX6_conflict 23 = .ok (.bipush (-2), 2) := by decide +kernel
theorem dX6_conflict_25 : decode cX6_conflict 25 = .ok (.ireturn, 1) := by decide +kernel
theorem dX6_conflict_26 : decode cX6_conflict 26 = .ok (.aload_n 0, 1) := by decide +kernel
theorem dX6_conflict_27 : decode cX6_conflict 27 = .ok (.invokevirtual 61, 3) := by decide +kernel
theorem dX6_conflict_30 : decode cX6_conflict 30 = .ok (.aload_n 0, 1) := by decide +kernel
theorem dX6_conflict_31 : decode cX6_conflict 31 = .ok (.getfield 7, 3) := by decide +kernel
theorem dX6_conflict_34 : decode cX6_conflict 34 = .ok (.bipush 64, 2) := by decide +kernel
theorem dX6_conflict_36 : decode cX6_conflict 36 = .ok (.iload_n 1, 1) := by decide +kernel
theorem dX6_conflict_37 : decode cX6_conflict 37 = .ok (.iadd, 1) := by decide +kernel
theorem dX6_conflict_38 : decode cX6_conflict 38 = .ok (.dup2, 1) := by decide +kernel
theorem dX6_conflict_39 : decode cX6_conflict 39 = .ok (.iaload, 1) := by decide +kernel
theorem dX6_conflict_40 : decode cX6_conflict 40 = .ok (.iconst 1, 1) := by decide +kernel
theorem dX6_conflict_41 : decode cX6_conflict 41 = .ok (.iload_n 2, 1) := by decide +kernel
theorem dX6_conflict_42 : decode cX6_conflict 42 = .ok (.ishl, 1) := by decide +kernel
theorem dX6_conflict_43 : decode cX6_conflict 43 = .ok (.ixor, 1) := by decide +kernel
theorem dX6_conflict_44 : decode cX6_conflict 44 = .ok (.iastore, 1) := by decide +kernel
theorem dX6_conflict_45 : decode cX6_conflict 45 = .ok (.aload_n 0, 1) := by decide +kernel
theorem dX6_conflict_46 : decode cX6_conflict 46 = .ok (.getfield 7, 3) := by decide +kernel
theorem dX6_conflict_49 : decode cX6_conflict 49 = .ok (.bipush 64, 2) := by decide +kernel
theorem dX6_conflict_51 : decode cX6_conflict 51 = .ok (.iload_n 2, 1) := by decide +kernel
theorem dX6_conflict_52 : decode cX6_conflict 52 = .ok (.iadd, 1) := by decide +kernel
theorem dX6_conflict_53 : decode cX6_conflict 53 = .ok (.dup2, 1) := by decide +kernel
theorem dX6_conflict_54 : decode cX6_conflict 54 = .ok (.iaload, 1) := by decide +kernel
theorem dX6_conflict_55 : decode cX6_conflict 55 = .ok (.iconst 1, 1) := by decide +kernel
theorem dX6_conflict_56 : decode cX6_conflict 56 = .ok (.iload_n 1, 1) := by decide +kernel
theorem dX6_conflict_57 : decode cX6_conflict 57 = .ok (.ishl, 1) := by decide +kernel
theorem dX6_conflict_58 : decode cX6_conflict 58 = .ok (.ixor, 1) := by decide +kernel
theorem dX6_conflict_59 : decode cX6_conflict 59 = .ok (.iastore, 1) := by decide +kernel
theorem dX6_conflict_60 : decode cX6_conflict 60 = .ok (.aload_n 0, 1) := by decide +kernel
theorem dX6_conflict_61 : decode cX6_conflict 61 = .ok (.getfield 7, 3) := by decide +kernel
theorem dX6_conflict_64 : decode cX6_conflict 64 = .ok (.bipush 64, 2) := by decide +kernel
theorem dX6_conflict_66 : decode cX6_conflict 66 = .ok (.iload_n 1, 1) := by decide +kernel
theorem dX6_conflict_67 : decode cX6_conflict 67 = .ok (.iadd, 1) := by decide +kernel
theorem dX6_conflict_68 : decode cX6_conflict 68 = .ok (.iaload, 1) := by decide +kernel
theorem dX6_conflict_69 : decode cX6_conflict 69 = .ok (.iload_n 2, 1) := by decide +kernel
theorem dX6_conflict_70 : decode cX6_conflict 70 = .ok (.ishr, 1) := by decide +kernel
theorem dX6_conflict_71 : decode cX6_conflict 71 = .ok (.iconst 1, 1) := by decide +kernel
theorem dX6_conflict_72 : decode cX6_conflict 72 = .ok (.iand, 1) := by decide +kernel
theorem dX6_conflict_73 : decode cX6_conflict 73 = .ok (.ireturn, 1) := by decide +kernel
set_option maxRecDepth 20000 in
theorem ggX6_need_X6_isItem : GoodIn wsX6_need wsX6_isItem := goodIn_r _ [6, 1, 7, 8, 5, 9, 16, 17, 18, 19, 20, 21, 22, 23, 24, 25, 26, 27, 28, 29, 30, 31, 32, 33, 34, 35, 36] (by decide +kernel) (by decide +kernel)
set_option maxRecDepth 20000 in
theorem gX6_need_X6_isItem : GoodIn wsX6_need (wsV RX6 68 RX6 yX6_isItem wsX6_isItem) := goodIn_app (goodIn_of _ (by decide +kernel)) ggX6_need_X6_isItem
set_option maxRecDepth 20000 in
theorem ggX6_need_X6_record : GoodIn wsX6_need wsX6_record := goodIn_r _ [13, 14, 15, 1, 16, 17, 18, 19, 20, 21, 22, 23, 24, 25, 26, 27, 28, 29, 30, 31, 32, 33, 34, 35, 36] (by decide +kernel) (by decide +kernel)
set_option maxRecDepth 20000 in
theorem gX6_need_X6_record : GoodIn wsX6_need (wsV RX6 61 RX6 yX6_record wsX6_record) := goodIn_app (goodIn_of _ (by decide +kernel)) ggX6_need_X6_record
theorem dX6_need_0 : decode cX6_need 0 = .ok (.aload_n 0, 1) := by decide +kernel
theorem dX6_need_1 : decode cX6_need 1 = .ok (.iload_n 1, 1) := by decide +kernel
theorem dX6_need_2 : decode cX6_need 2 = .ok (.invokevirtual 68, 3) := by decide +kernel
theorem dX6_need_5 : decode cX6_need 5 = .ok (.ifCond .eq 11, 3) := by decide +kernel
theorem dX6_need_8 : decode cX6_need 8 = .ok (.aload_n 0, 1) := by decide +kernel
theorem dX6_need_9 : decode cX6_need 9 = .ok (.iload_n 2, 1) := by decide +kernel
theorem dX6_need_10 : decode cX6_need 10 = .ok (.invokevirtual 68, 3) := by decide +kernel
theorem dX6_need_13 : decode cX6_need 13 = .ok (.ifCond .ne 5, 3) := by decide +kernel
theorem dX6_need_16 : decode cX6_need 16 = .ok (.iconst (-1), 1) := by decide +kernel
theorem dX6_need_17 : decode cX6_need 17 = .ok (.ireturn, 1) := by decide +kernel
theorem dX6_need_18 : decode cX6_need 18 = .ok (.iload_n 1, 1) := by decide +kernel
theorem dX6_need_19 : decode cX6_need 19 = .ok (.iload_n 2, 1) := by decide +kernel
theorem dX6_need_20 : decode cX6_need 20 = .ok (.if_icmp .ne 6, 3) := by decide +kernel
theorem dX6_need_23 : decode cX6_need 23 = .ok (.bipush (-2), 2) := by decide +kernel
theorem dX6_need_25 : decode cX6_need 25 = .ok (.ireturn, 1) := by decide +kernel
theorem dX6_need_26 : decode cX6_need 26 = .ok (.aload_n 0, 1) := by decide +kernel
theorem dX6_need_27 : decode cX6_need 27 = .ok (.invokevirtual 61, 3) := by decide +kernel
theorem dX6_need_30 : decode cX6_need 30 = .ok (.aload_n 0, 1) := by decide +kernel
theorem dX6_need_31 : decode cX6_need 31 = .ok (.getfield 7, 3) := by decide +kernel
theorem dX6_need_34 : decode cX6_need 34 = .ok (.bipush 76, 2) := by decide +kernel
theorem dX6_need_36 : decode cX6_need 36 = .ok (.iload_n 1, 1) := by decide +kernel
theorem dX6_need_37 : decode cX6_need 37 = .ok (.iadd, 1) := by decide +kernel
theorem dX6_need_38 : decode cX6_need 38 = .ok (.dup2, 1) := by decide +kernel
theorem dX6_need_39 : decode cX6_need 39 = .ok (.iaload, 1) := by decide +kernel
theorem dX6_need_40 : decode cX6_need 40 = .ok (.iconst 1, 1) := by decide +kernel
theorem dX6_need_41 : decode cX6_need 41 = .ok (.iload_n 2, 1) := by decide +kernel
theorem dX6_need_42 : decode cX6_need 42 = .ok (.ishl, 1) := by decide +kernel
theorem dX6_need_43 : decode cX6_need 43 = .ok (.ixor, 1) := by decide +kernel
theorem dX6_need_44 : decode cX6_need 44 = .ok (.iastore, 1) := by decide +kernel
theorem dX6_need_45 : decode cX6_need 45 = .ok (.aload_n 0, 1) := by decide +kernel
theorem dX6_need_46 : decode cX6_need 46 = .ok (.getfield 7, 3) := by decide +kernel
theorem dX6_need_49 : decode cX6_need 49 = .ok (.bipush 76, 2) := by decide +kernel
theorem dX6_need_51 : decode cX6_need 51 = .ok (.iload_n 1, 1) := by decide +kernel
theorem dX6_need_52 : decode cX6_need 52 = .ok (.iadd, 1) := by decide +kernel
theorem dX6_need_53 : decode cX6_need 53 = .ok (.iaload, 1) := by decide +kernel
theorem dX6_need_54 : decode cX6_need 54 = .ok (.iload_n 2, 1) := by decide +kernel
theorem dX6_need_55 : decode cX6_need 55 = .ok (.ishr, 1) := by decide +kernel
theorem dX6_need_56 : decode cX6_need 56 = .ok (.iconst 1, 1) := by decide +kernel
theorem dX6_need_57 : decode cX6_need 57 = .ok (.iand, 1) := by decide +kernel
theorem dX6_need_58 : decode cX6_need 58 = .ok (.ireturn, 1) := by decide +kernel
set_option maxRecDepth 20000 in
theorem ggX6_rule_X6_in : GoodIn wsX6_rule wsX6_in := goodIn_r _ [5] (by decide +kernel) (by decide +kernel)
set_option maxRecDepth 20000 in
theorem gX6_rule_X6_in : GoodIn wsX6_rule (va_wsS RX6 53 yX6_in wsX6_in) := goodIn_app (goodIn_of _ (by decide +kernel)) ggX6_rule_X6_in
set_option maxRecDepth 20000 in
theorem ggX6_rule_X6_record : GoodIn wsX6_rule wsX6_record := goodIn_r _ [9, 10, 11, 1, 12, 13, 14, 15, 16, 17, 18, 19, 20, 21, 22, 23, 24, 25, 26, 27, 28, 29, 30, 31, 32] (by decide +kernel) (by decide +kernel)
set_option maxRecDepth 20000 in
theorem gX6_rule_X6_record : GoodIn wsX6_rule (wsV RX6 61 RX6 yX6_record wsX6_record) := goodIn_app (goodIn_of _ (by decide +kernel)) ggX6_rule_X6_record
theorem dX6_rule_0 : decode cX6_rule 0 = .ok (.iload_n 1, 1) := by decide +kernel
theorem dX6_rule_1 : decode cX6_rule 1 = .ok (.ifCond .ne 14, 3) := by decide +kernel
theorem dX6_rule_4 : decode cX6_rule 4 = .ok (.iload_n 2, 1) := by decide +kernel
theorem dX6_rule_5 : decode cX6_rule 5 = .ok (.iconst 0, 1) := by decide +kernel
theorem dX6_rule_6 : decode cX6_rule 6 = .ok (.sipush 9999, 3) := by decide +kernel
theorem dX6_rule_9 : decode cX6_rule 9 = .ok (.invokestatic 53, 3) := by decide +kernel
theorem dX6_rule_12 : decode cX6_rule 12 = .ok (.goto 27, 3) := by decide +kernel
theorem dX6_rule_15 : decode cX6_rule 15 = .ok (.iload_n 1, 1) := by decide +kernel
theorem dX6_rule_16 : decode cX6_rule 16 = .ok (.iconst 1, 1) := by decide +kernel
theorem dX6_rule_17 : decode cX6_rule 17 = .ok (.iconst 2, 1) := by decide +kernel
theorem dX6_rule_18 : decode cX6_rule 18 = .ok (.invokestatic 53, 3) := by decide +kernel
theorem dX6_rule_21 : decode cX6_rule 21 = .ok (.ifCond .eq 17, 3) := by decide +kernel
theorem dX6_rule_24 : decode cX6_rule 24 = .ok (.iload_n 2, 1) := by decide +kernel
theorem dX6_rule_25 : decode cX6_rule 25 = .ok (.iconst 0, 1) := by decide +kernel
theorem dX6_rule_26 : decode cX6_rule 26 = .ok (.bipush 12, 2) := by decide +kernel
theorem dX6_rule_28 : decode cX6_rule 28 = .ok (.invokestatic 53, 3) := by decide +kernel
theorem dX6_rule_31 : decode cX6_rule 31 = .ok (.ifCond .eq 7, 3) := by decide +kernel
theorem dX6_rule_34 : decode cX6_rule 34 = .ok (.iconst 1, 1) := by decide +kernel
theorem dX6_rule_35 : decode cX6_rule 35 = .ok (.goto 4, 3) := by decide +kernel
theorem dX6_rule_38 : decode cX6_rule 38 = .ok (.iconst 0, 1) := by decide +kernel
theorem dX6_rule_39 : decode cX6_rule 39 = .ok (.istore_n 3, 1) := by decide +kernel
theorem dX6_rule_40 : decode cX6_rule 40 = .ok (.iload_n 3, 1) := by decide +kernel
theorem dX6_rule_41 : decode cX6_rule 41 = .ok (.ifCond .ne 6, 3) := by decide +kernel
theorem dX6_rule_44 : decode cX6_rule 44 = .ok (.bipush (-2), 2) := by decide +kernel
theorem dX6_rule_46 : decode cX6_rule 46 = .ok (.ireturn, 1) := by decide +kernel
theorem dX6_rule_47 : decode cX6_rule 47 = .ok (.aload_n 0, 1) := by decide +kernel
theorem dX6_rule_48 : decode cX6_rule 48 = .ok (.invokevirtual 61, 3) := by decide +kernel
theorem dX6_rule_51 : decode cX6_rule 51 = .ok (.aload_n 0, 1) := by decide +kernel
theorem dX6_rule_52 : decode cX6_rule 52 = .ok (.getfield 7, 3) := by decide +kernel
theorem dX6_rule_55 : decode cX6_rule 55 = .ok (.iconst 1, 1) := by decide +kernel
theorem dX6_rule_56 : decode cX6_rule 56 = .ok (.iload_n 1, 1) := by decide +kernel
theorem dX6_rule_57 : decode cX6_rule 57 = .ok (.iadd, 1) := by decide +kernel
theorem dX6_rule_58 : decode cX6_rule 58 = .ok (.iaload, 1) := by decide +kernel
theorem dX6_rule_59 : decode cX6_rule 59 = .ok (.istore 4, 2) := by decide +kernel
theorem dX6_rule_61 : decode cX6_rule 61 = .ok (.aload_n 0, 1) := by decide +kernel
theorem dX6_rule_62 : decode cX6_rule 62 = .ok (.getfield 7, 3) := by decide +kernel
theorem dX6_rule_65 : decode cX6_rule 65 = .ok (.iconst 1, 1) := by decide +kernel
theorem dX6_rule_66 : decode cX6_rule 66 = .ok (.iload_n 1, 1) := by decide +kernel
theorem dX6_rule_67 : decode cX6_rule 67 = .ok (.iadd, 1) := by decide +kernel
theorem dX6_rule_68 : decode cX6_rule 68 = .ok (.iload_n 2, 1) := by decide +kernel
theorem dX6_rule_69 : decode cX6_rule 69 = .ok (.iastore, 1) := by decide +kernel
theorem dX6_rule_70 : decode cX6_rule 70 = .ok (.iload 4, 2) := by decide +kernel
theorem dX6_rule_72 : decode cX6_rule 72 = .ok (.ireturn, 1) := by decide +kernel
set_option maxRecDepth 20000 in
theorem ggX6_put_X6_in : GoodIn wsX6_put wsX6_in := goodIn_r _ [7] (by decide +kernel) (by decide +kernel)
set_option maxRecDepth 20000 in
theorem gX6_put_X6_in : GoodIn wsX6_put (va_wsS RX6 53 yX6_in wsX6_in) := goodIn_app (goodIn_of _ (by decide +kernel)) ggX6_put_X6_in
theorem dX6_put_0 : decode cX6_put 0 = .ok (.iconst 0, 1) := by decide +kernel
theorem dX6_put_1 : decode cX6_put 1 = .ok (.istore_n 3, 1) := by decide +kernel
theorem dX6_put_2 : decode cX6_put 2 = .ok (.lload_n 1, 1) := by decide +kernel
theorem dX6_put_3 : decode cX6_put 3 = .ok (.lstore 4, 2) := by decide +kernel
theorem dX6_put_5 : decode cX6_put 5 = .ok (.iload_n 3, 1) := by decide +kernel
theorem dX6_put_6 : decode cX6_put 6 = .ok (.bipush 8, 2) := by decide +kernel
theorem dX6_put_8 : decode cX6_put 8 = .ok (.if_icmp .ge 47, 3) := by decide +kernel
theorem dX6_put_11 : decode cX6_put 11 = .ok (.lload 4, 2) := by decide +kernel
theorem dX6_put_13 : decode cX6_put 13 = .ok (.ldc2_w 90, 3) := by decide +kernel
theorem dX6_put_16 : decode cX6_put 16 = .ok (.land, 1) := by decide +kernel
theorem dX6_put_17 : decode cX6_put 17 = .ok (.lconst 0, 1) := by decide +kernel
theorem dX6_put_18 : decode cX6_put 18 = .ok (.lcmp, 1) := by decide +kernel
theorem dX6_put_19 : decode cX6_put 19 = .ok (.ifCond .eq 36, 3) := by decide +kernel
theorem dX6_put_22 : decode cX6_put 22 = .ok (.lload 4, 2) := by decide +kernel
theorem dX6_put_24 : decode cX6_put 24 = .ok (.ldc2_w 90, 3) := by decide +kernel
theorem dX6_put_27 : decode cX6_put 27 = .ok (.land, 1) := by decide +kernel
theorem dX6_put_28 : decode cX6_put 28 = .ok (.l2i, 1) := by decide +kernel
theorem dX6_put_29 : decode cX6_put 29 = .ok (.bipush 33, 2) := by decide +kernel
theorem dX6_put_31 : decode cX6_put 31 = .ok (.bipush 126, 2) := by decide +kernel
theorem dX6_put_33 : decode cX6_put 33 = .ok (.invokestatic 53, 3) := by decide +kernel
theorem dX6_put_36 : decode cX6_put 36 = .ok (.ifCond .ne 6, 3) := by decide +kernel
theorem dX6_put_39 : decode cX6_put 39 = .ok (.bipush (-2), 2) := by decide +kernel
theorem dX6_put_41 : decode cX6_put 41 = .ok (.ireturn, 1) := by decide +kernel
theorem dX6_put_42 : decode cX6_put 42 = .ok (.iinc 3 1, 3) := by decide +kernel
theorem dX6_put_45 : decode cX6_put 45 = .ok (.lload 4, 2) := by decide +kernel
theorem dX6_put_47 : decode cX6_put 47 = .ok (.bipush 8, 2) := by decide +kernel
theorem dX6_put_49 : decode cX6_put 49 = .ok (.lushr, 1) := by decide +kernel
theorem dX6_put_50 : decode cX6_put 50 = .ok (.lstore 4, 2) := by decide +kernel
theorem dX6_put_52 : decode cX6_put 52 = .ok (.goto (-47), 3) := by decide +kernel
theorem dX6_put_55 : decode cX6_put 55 = .ok (.iload_n 3, 1) := by decide +kernel
theorem dX6_put_56 : decode cX6_put 56 = .ok (.ifCond .eq 10, 3) := by decide +kernel
theorem dX6_put_59 : decode cX6_put 59 = .ok (.lload 4, 2) := by decide +kernel
theorem dX6_put_61 : decode cX6_put 61 = .ok (.lconst 0, 1) := by decide +kernel
theorem dX6_put_62 : decode cX6_put 62 = .ok (.lcmp, 1) := by decide +kernel
theorem dX6_put_63 : decode cX6_put 63 = .ok (.ifCond .eq 6, 3) := by decide +kernel
theorem dX6_put_66 : decode cX6_put 66 = .ok (.bipush (-2), 2) := by decide +kernel
theorem dX6_put_68 : decode cX6_put 68 = .ok (.ireturn, 1) := by decide +kernel
theorem dX6_put_69 : decode cX6_put 69 = .ok (.aload_n 0, 1) := by decide +kernel
theorem dX6_put_70 : decode cX6_put 70 = .ok (.getfield 92, 3) := by decide +kernel
theorem dX6_put_73 : decode cX6_put 73 = .ok (.iload_n 3, 1) := by decide +kernel
theorem dX6_put_74 : decode cX6_put 74 = .ok (.iadd, 1) := by decide +kernel
theorem dX6_put_75 : decode cX6_put 75 = .ok (.bipush 80, 2) := by decide +kernel
theorem dX6_put_77 : decode cX6_put 77 = .ok (.if_icmp .le 6, 3) := by decide +kernel
theorem dX6_put_80 : decode cX6_put 80 = .ok (.bipush (-4), 2) := by decide +kernel
theorem dX6_put_82 : decode cX6_put 82 = .ok (.ireturn, 1) := by decide +kernel
theorem dX6_put_83 : decode cX6_put 83 = .ok (.iconst 0, 1) := by decide +kernel
theorem dX6_put_84 : decode cX6_put 84 = .ok (.istore 6, 2) := by decide +kernel
theorem dX6_put_86 : decode cX6_put 86 = .ok (.iload 6, 2) := by decide +kernel
theorem dX6_put_88 : decode cX6_put 88 = .ok (.iload_n 3, 1) := by decide +kernel
theorem dX6_put_89 : decode cX6_put 89 = .ok (.if_icmp .ge 37, 3) := by decide +kernel
theorem dX6_put_92 : decode cX6_put 92 = .ok (.aload_n 0, 1) := by decide +kernel
theorem dX6_put_93 : decode cX6_put 93 = .ok (.getfield 16, 3) := by decide +kernel
theorem dX6_put_96 : decode cX6_put 96 = .ok (.aload_n 0, 1) := by decide +kernel
theorem dX6_put_97 : decode cX6_put 97 = .ok (.getfield 92, 3) := by decide +kernel
theorem dX6_put_100 : decode cX6_put 100 = .ok (.iload 6, 2) := by decide +kernel
theorem dX6_put_102 : decode cX6_put 102 = .ok (.iadd, 1) := by decide +kernel
theorem dX6_put_103 : decode cX6_put 103 = .ok (.lload_n 1, 1) := by decide +kernel
theorem dX6_put_104 : decode cX6_put 104 = .ok (.bipush 8, 2) := by decide +kernel
theorem dX6_put_106 : decode cX6_put 106 = .ok (.iload_n 3, 1) := by decide +kernel
theorem dX6_put_107 : decode cX6_put 107 = .ok (.iconst 1, 1) := by decide +kernel
theorem dX6_put_108 : decode cX6_put 108 = .ok (.isub, 1) := by decide +kernel
theorem dX6_put_109 : decode cX6_put 109 = .ok (.iload 6, 2) := by decide +kernel
theorem dX6_put_111 : decode cX6_put 111 = .ok (.isub, 1) := by decide +kernel
theorem dX6_put_112 : decode cX6_put 112 = .ok (.imul, 1) := by decide +kernel
theorem dX6_put_113 : decode cX6_put 113 = .ok (.lshr, 1) := by decide +kernel
theorem dX6_put_114 : decode cX6_put 114 = .ok (.ldc2_w 90, 3) := by decide +kernel
theorem dX6_put_117 : decode cX6_put 117 = .ok (.land, 1) := by decide +kernel
theorem dX6_put_118 : decode cX6_put 118 = .ok (.l2i, 1) := by decide +kernel
theorem dX6_put_119 : decode cX6_put 119 = .ok (.iastore, 1) := by decide +kernel
theorem dX6_put_120 : decode cX6_put 120 = .ok (.iinc 6 1, 3) := by decide +kernel
theorem dX6_put_123 : decode cX6_put 123 = .ok (.goto (-37), 3) := by decide +kernel
theorem dX6_put_126 : decode cX6_put 126 = .ok (.aload_n 0, 1) := by decide +kernel
theorem dX6_put_127 : decode cX6_put 127 = .ok (.dup, 1) := by decide +kernel
theorem dX6_put_128 : decode cX6_put 128 = .ok (.getfield 92, 3) := by decide +kernel
theorem dX6_put_131 : decode cX6_put 131 = .ok (.iload_n 3, 1) := by decide +kernel
theorem dX6_put_132 : decode cX6_put 132 = .ok (.iadd, 1) := by decide +kernel
theorem dX6_put_133 : decode cX6_put 133 = .ok (.putfield 92, 3) := by decide +kernel
theorem dX6_put_136 : decode cX6_put 136 = .ok (.aload_n 0, 1) := by decide +kernel
theorem dX6_put_137 : decode cX6_put 137 = .ok (.getfield 92, 3) := by decide +kernel
theorem dX6_put_140 : decode cX6_put 140 = .ok (.ireturn, 1) := by decide +kernel
theorem dX6_wipe_0 : decode cX6_wipe 0 = .ok (.aload_n 0, 1) := by decide +kernel
theorem dX6_wipe_1 : decode cX6_wipe 1 = .ok (.getfield 92, 3) := by decide +kernel
theorem dX6_wipe_4 : decode cX6_wipe 4 = .ok (.istore_n 1, 1) := by decide +kernel
theorem dX6_wipe_5 : decode cX6_wipe 5 = .ok (.aload_n 0, 1) := by decide +kernel
theorem dX6_wipe_6 : decode cX6_wipe 6 = .ok (.iconst 0, 1) := by decide +kernel
theorem dX6_wipe_7 : decode cX6_wipe 7 = .ok (.putfield 92, 3) := by decide +kernel
theorem dX6_wipe_10 : decode cX6_wipe 10 = .ok (.iload_n 1, 1) := by decide +kernel
theorem dX6_wipe_11 : decode cX6_wipe 11 = .ok (.ireturn, 1) := by decide +kernel
theorem dX6_next_0 : decode cX6_next 0 = .ok (.aload_n 0, 1) := by decide +kernel
theorem dX6_next_1 : decode cX6_next 1 = .ok (.getfield 95, 3) := by decide +kernel
theorem dX6_next_4 : decode cX6_next 4 = .ok (.aload_n 0, 1) := by decide +kernel
theorem dX6_next_5 : decode cX6_next 5 = .ok (.getfield 92, 3) := by decide +kernel
theorem dX6_next_8 : decode cX6_next 8 = .ok (.if_icmp .ge 15, 3) := by decide +kernel
theorem dX6_next_11 : decode cX6_next 11 = .ok (.aload_n 0, 1) := by decide +kernel
theorem dX6_next_12 : decode cX6_next 12 = .ok (.getfield 16, 3) := by decide +kernel
theorem dX6_next_15 : decode cX6_next 15 = .ok (.aload_n 0, 1) := by decide +kernel
theorem dX6_next_16 : decode cX6_next 16 = .ok (.getfield 95, 3) := by decide +kernel
theorem dX6_next_19 : decode cX6_next 19 = .ok (.iaload, 1) := by decide +kernel
theorem dX6_next_20 : decode cX6_next 20 = .ok (.goto 4, 3) := by decide +kernel
theorem dX6_next_23 : decode cX6_next 23 = .ok (.iconst 0, 1) := by decide +kernel
theorem dX6_next_24 : decode cX6_next 24 = .ok (.ireturn, 1) := by decide +kernel
set_option maxRecDepth 20000 in
theorem ggX6_readNumber_X6_next : GoodIn wsX6_readNumber wsX6_next := goodIn_r _ [7, 2, 8, 9, 13, 14, 15, 16, 17, 18, 19, 20, 21, 22, 23, 24, 25, 26, 27, 28, 29, 30, 31, 32, 33] (by decide +kernel) (by decide +kernel)
set_option maxRecDepth 20000 in
theorem gX6_readNumber_X6_next : GoodIn wsX6_readNumber (wsV RX6 102 RX6 yX6_next wsX6_next) := goodIn_app (goodIn_of _ (by decide +kernel)) ggX6_readNumber_X6_next
set_option maxRecDepth 20000 in
theorem ggX6_readNumber_X6_in : GoodIn wsX6_readNumber wsX6_in := goodIn_r _ [12] (by decide +kernel) (by decide +kernel)
set_option maxRecDepth 20000 in
theorem gX6_readNumber_X6_in : GoodIn wsX6_readNumber (va_wsS RX6 53 yX6_in wsX6_in) := goodIn_app (goodIn_of _ (by decide +kernel)) ggX6_readNumber_X6_in
theorem dX6_readNumber_0 : decode cX6_readNumber 0 = .ok (.aload_n 0, 1) := by decide +kernel
theorem dX6_readNumber_1 : decode cX6_readNumber 1 = .ok (.getfield 98, 3) := by decide +kernel
theorem dX6_readNumber_4 : decode cX6_readNumber 4 = .ok (.ifCond .ne 19, 3) := by decide +kernel
theorem dX6_readNumber_7 : decode cX6_readNumber 7 = .ok (.aload_n 0, 1) := by decide +kernel
theorem dX6_readNumber_8 : decode cX6_readNumber 8 = .ok (.invokevirtual 102, 3) := by decide +kernel
theorem dX6_readNumber_11 : decode cX6_readNumber 11 = .ok (.bipush 48, 2) := by decide +kernel
theorem dX6_readNumber_13 : decode cX6_readNumber 13 = .ok (.iload_n 1, 1) := by decide +kernel
theorem dX6_readNumber_14 : decode cX6_readNumber 14 = .ok (.iadd, 1) := by decide +kernel
theorem dX6_readNumber_15 : decode cX6_readNumber 15 = .ok (.bipush 57, 2) := by decide +kernel
theorem dX6_readNumber_17 : decode cX6_readNumber 17 = .ok (.invokestatic 53, 3) := by decide +kernel
theorem dX6_readNumber_20 : decode cX6_readNumber 20 = .ok (.ifCond .ne 10, 3) := by decide +kernel
theorem dX6_readNumber_23 : decode cX6_readNumber 23 = .ok (.aload_n 0, 1) := by decide +kernel
theorem dX6_readNumber_24 : decode cX6_readNumber 24 = .ok (.iconst 1, 1) := by decide +kernel
theorem dX6_readNumber_25 : decode cX6_readNumber 25 = .ok (.putfield 98, 3) := by decide +kernel
theorem dX6_readNumber_28 : decode cX6_readNumber 28 = .ok (.iconst 0, 1) := by decide +kernel
theorem dX6_readNumber_29 : decode cX6_readNumber 29 = .ok (.ireturn, 1) := by decide +kernel
theorem dX6_readNumber_30 : decode cX6_readNumber 30 = .ok (.aload_n 0, 1) := by decide +kernel
theorem dX6_readNumber_31 : decode cX6_readNumber 31 = .ok (.invokevirtual 102, 3) := by decide +kernel
theorem dX6_readNumber_34 : decode cX6_readNumber 34 = .ok (.bipush 48, 2) := by decide +kernel
theorem dX6_readNumber_36 : decode cX6_readNumber 36 = .ok (.isub, 1) := by decide +kernel
theorem dX6_readNumber_37 : decode cX6_readNumber 37 = .ok (.istore_n 2, 1) := by decide +kernel
theorem dX6_readNumber_38 : decode cX6_readNumber 38 = .ok (.aload_n 0, 1) := by decide +kernel
theorem dX6_readNumber_39 : decode cX6_readNumber 39 = .ok (.dup, 1) := by decide +kernel
theorem dX6_readNumber_40 : decode cX6_readNumber 40 = .ok (.getfield 95, 3) := by decide +kernel
theorem dX6_readNumber_43 : decode cX6_readNumber 43 = .ok (.iconst 1, 1) := by decide +kernel
theorem dX6_readNumber_44 : decode cX6_readNumber 44 = .ok (.iadd, 1) := by decide +kernel
theorem dX6_readNumber_45 : decode cX6_readNumber 45 = .ok (.putfield 95, 3) := by decide +kernel
theorem dX6_readNumber_48 : decode cX6_readNumber 48 = .ok (.iconst 0, 1) := by decide +kernel
theorem dX6_readNumber_49 : decode cX6_readNumber 49 = .ok (.istore_n 3, 1) := by decide +kernel
theorem dX6_readNumber_50 : decode cX6_readNumber 50 = .ok (.iload_n 3, 1) := by decide +kernel
theorem dX6_readNumber_51 : decode cX6_readNumber 51 = .ok (.iconst 2, 1) := by decide +kernel
theorem dX6_readNumber_52 : decode cX6_readNumber 52 = .ok (.if_icmp .ge 50, 3) := by decide +kernel
theorem dX6_readNumber_55 : decode cX6_readNumber 55 = .ok (.iload_n 2, 1) := by decide +kernel
theorem dX6_readNumber_56 : decode cX6_readNumber 56 = .ok (.ifCond .le 46, 3) := by decide +kernel
theorem dX6_readNumber_59 : decode cX6_readNumber 59 = .ok (.aload_n 0, 1) := by decide +kernel
theorem dX6_readNumber_60 : decode cX6_readNumber 60 = .ok (.invokevirtual 102, 3) := by decide +kernel
theorem dX6_readNumber_63 : decode cX6_readNumber 63 = .ok (.bipush 48, 2) := by decide +kernel
theorem dX6_readNumber_65 : decode cX6_readNumber 65 = .ok (.bipush 57, 2) := by decide +kernel
theorem dX6_readNumber_67 : decode cX6_readNumber 67 = .ok (.invokestatic 53, 3) := by decide +kernel
theorem dX6_readNumber_70 : decode cX6_readNumber 70 = .ok (.ifCond .eq 32, 3) := by decide +kernel
theorem dX6_readNumber_73 : decode cX6_readNumber 73 = .ok (.bipush 10, 2) := by decide +kernel
theorem dX6_readNumber_75 : decode cX6_readNumber 75 = .ok (.iload_n 2, 1) := by decide +kernel
theorem dX6_readNumber_76 : decode cX6_readNumber 76 = .ok (.imul, 1) := by decide +kernel
theorem dX6_readNumber_77 : decode cX6_readNumber 77 = .ok (.aload_n 0, 1) := by decide +kernel
theorem dX6_readNumber_78 : decode cX6_readNumber 78 = .ok (.invokevirtual 102, 3) := by decide +kernel
theorem dX6_readNumber_81 : decode cX6_readNumber 81 = .ok (.iadd, 1) := by decide +kernel
theorem dX6_readNumber_82 : decode cX6_readNumber 82 = .ok (.bipush 48, 2) := by decide +kernel
theorem dX6_readNumber_84 : decode cX6_readNumber 84 = .ok (.isub, 1) := by decide +kernel
theorem dX6_readNumber_85 : decode cX6_readNumber 85 = .ok (.istore_n 2, 1) := by decide +kernel
theorem dX6_readNumber_86 : decode cX6_readNumber 86 = .ok (.aload_n 0, 1) := by decide +kernel
theorem dX6_readNumber_87 : decode cX6_readNumber 87 = .ok (.dup, 1) := by decide +kernel
theorem dX6_readNumber_88 : decode cX6_readNumber 88 = .ok (.getfield 95, 3) := by decide +kernel
theorem dX6_readNumber_91 : decode cX6_readNumber 91 = .ok (.iconst 1, 1) := by decide +kernel
theorem dX6_readNumber_92 : decode cX6_readNumber 92 = .ok (.iadd, 1) := by decide +kernel
theorem dX6_readNumber_93 : decode cX6_readNumber 93 = .ok (.putfield 95, 3) := by decide +kernel
theorem dX6_readNumber_96 : decode cX6_readNumber 96 = .ok (.iinc 3 1, 3) := by decide +kernel
theorem dX6_readNumber_99 : decode cX6_readNumber 99 = .ok (.goto (-49), 3) := by decide +kernel
theorem dX6_readNumber_102 : decode cX6_readNumber 102 = .ok (.iload_n 2, 1) := by decide +kernel
theorem dX6_readNumber_103 : decode cX6_readNumber 103 = .ok (.ireturn, 1) := by decide +kernel
set_option maxRecDepth 20000 in
theorem ggX6_takes_X6_next : GoodIn wsX6_takes wsX6_next := goodIn_r _ [7, 2, 8, 9, 10, 11, 12, 13, 14, 15, 16, 17, 18, 19, 20, 21, 22, 23, 24, 25, 26, 27, 28, 29, 30] (by decide +kernel) (by decide +kernel)
set_option maxRecDepth 20000 in
theorem gX6_takes_X6_next : GoodIn wsX6_takes (wsV RX6 102 RX6 yX6_next wsX6_next) := goodIn_app (goodIn_of _ (by decide +kernel)) ggX6_takes_X6_next
theorem dX6_takes_0 : decode cX6_takes 0 = .ok (.aload_n 0, 1) := by decide +kernel
theorem dX6_takes_1 : decode cX6_takes 1 = .ok (.getfield 98, 3) := by decide +kernel
theorem dX6_takes_4 : decode cX6_takes 4 = .ok (.ifCond .ne 11, 3) := by decide +kernel
theorem dX6_takes_7 : decode cX6_takes 7 = .ok (.aload_n 0, 1) := by decide +kernel
theorem dX6_takes_8 : decode cX6_takes 8 = .ok (.invokevirtual 102, 3) := by decide +kernel
theorem dX6_takes_11 : decode cX6_takes 11 = .ok (.iload_n 1, 1) := by decide +kernel
theorem dX6_takes_12 : decode cX6_takes 12 = .ok (.if_icmp .eq 5, 3) := by decide +kernel
theorem dX6_takes_15 : decode cX6_takes 15 = .ok (.iconst 0, 1) := by decide +kernel
theorem dX6_takes_16 : decode cX6_takes 16 = .ok (.ireturn, 1) := by decide +kernel
theorem dX6_takes_17 : decode cX6_takes 17 = .ok (.aload_n 0, 1) := by decide +kernel
theorem dX6_takes_18 : decode cX6_takes 18 = .ok (.dup, 1) := by decide +kernel
theorem dX6_takes_19 : decode cX6_takes 19 = .ok (.getfield 95, 3) := by decide +kernel
theorem dX6_takes_22 : decode cX6_takes 22 = .ok (.iconst 1, 1) := by decide +kernel
theorem dX6_takes_23 : decode cX6_takes 23 = .ok (.iadd, 1) := by decide +kernel
theorem dX6_takes_24 : decode cX6_takes 24 = .ok (.putfield 95, 3) := by decide +kernel
theorem dX6_takes_27 : decode cX6_takes 27 = .ok (.iconst 1, 1) := by decide +kernel
theorem dX6_takes_28 : decode cX6_takes 28 = .ok (.ireturn, 1) := by decide +kernel
set_option maxRecDepth 20000 in
theorem ggX6_readGroup_X6_next : GoodIn wsX6_readGroup wsX6_next := goodIn_r _ [8, 3, 9, 10, 14, 15, 16, 17, 18, 19, 20, 21, 22, 23, 24, 25, 26, 27, 28, 29, 30, 31, 32, 33, 34] (by decide +kernel) (by decide +kernel)
set_option maxRecDepth 20000 in
theorem gX6_readGroup_X6_next : GoodIn wsX6_readGroup (wsV RX6 102 RX6 yX6_next wsX6_next) := goodIn_app (goodIn_of _ (by decide +kernel)) ggX6_readGroup_X6_next
set_option maxRecDepth 20000 in
theorem ggX6_readGroup_X6_in : GoodIn wsX6_readGroup wsX6_in := goodIn_r _ [13] (by decide +kernel) (by decide +kernel)
set_option maxRecDepth 20000 in
theorem gX6_readGroup_X6_in : GoodIn wsX6_readGroup (va_wsS RX6 53 yX6_in wsX6_in) := goodIn_app (goodIn_of _ (by decide +kernel)) ggX6_readGroup_X6_in
theorem dX6_readGroup_0 : decode cX6_readGroup 0 = .ok (.aload_n 0, 1) := by decide +kernel
theorem dX6_readGroup_1 : decode cX6_readGroup 1 = .ok (.invokevirtual 102, 3) := by decide +kernel
theorem dX6_readGroup_4 : decode cX6_readGroup 4 = .ok (.bipush 48, 2) := by decide +kernel
theorem dX6_readGroup_6 : decode cX6_readGroup 6 = .ok (.bipush 51, 2) := by decide +kernel
theorem dX6_readGroup_8 : decode cX6_readGroup 8 = .ok (.invokestatic 53, 3) := by decide +kernel
theorem dX6_readGroup_11 : decode cX6_readGroup 11 = .ok (.ifCond .ne 9, 3) := by decide +kernel
theorem dX6_readGroup_14 : decode cX6_readGroup 14 = .ok (.aload_n 0, 1) := by decide +kernel
theorem dX6_readGroup_15 : decode cX6_readGroup 15 = .ok (.iconst 1, 1) := by decide +kernel
theorem dX6_readGroup_16 : decode cX6_readGroup 16 = .ok (.putfield 98, 3) := by decide +kernel
theorem dX6_readGroup_19 : decode cX6_readGroup 19 = .ok (.return_, 1) := by decide +kernel
theorem dX6_readGroup_20 : decode cX6_readGroup 20 = .ok (.aload_n 0, 1) := by decide +kernel
theorem dX6_readGroup_21 : decode cX6_readGroup 21 = .ok (.getfield 19, 3) := by decide +kernel
theorem dX6_readGroup_24 : decode cX6_readGroup 24 = .ok (.iload_n 1, 1) := by decide +kernel
theorem dX6_readGroup_25 : decode cX6_readGroup 25 = .ok (.iconst 4, 1) := by decide +kernel
theorem dX6_readGroup_26 : decode cX6_readGroup 26 = .ok (.iadd, 1) := by decide +kernel
theorem dX6_readGroup_27 : decode cX6_readGroup 27 = .ok (.aload_n 0, 1) := by decide +kernel
theorem dX6_readGroup_28 : decode cX6_readGroup 28 = .ok (.invokevirtual 102, 3) := by decide +kernel
theorem dX6_readGroup_31 : decode cX6_readGroup 31 = .ok (.bipush 48, 2) := by decide +kernel
theorem dX6_readGroup_33 : decode cX6_readGroup 33 = .ok (.isub, 1) := by decide +kernel
theorem dX6_readGroup_34 : decode cX6_readGroup 34 = .ok (.iastore, 1) := by decide +kernel
theorem dX6_readGroup_35 : decode cX6_readGroup 35 = .ok (.aload_n 0, 1) := by decide +kernel
theorem dX6_readGroup_36 : decode cX6_readGroup 36 = .ok (.dup, 1) := by decide +kernel
theorem dX6_readGroup_37 : decode cX6_readGroup 37 = .ok (.getfield 95, 3) := by decide +kernel
theorem dX6_readGroup_40 : decode cX6_readGroup 40 = .ok (.iconst 1, 1) := by decide +kernel
theorem dX6_readGroup_41 : decode cX6_readGroup 41 = .ok (.iadd, 1) := by decide +kernel
theorem dX6_readGroup_42 : decode cX6_readGroup 42 = .ok (.putfield 95, 3) := by decide +kernel
theorem dX6_readGroup_45 : decode cX6_readGroup 45 = .ok (.return_, 1) := by decide +kernel
set_option maxRecDepth 20000 in
theorem ggX6_readItem_X6_readNumber : GoodIn wsX6_readItem wsX6_readNumber := goodIn_r _ [8, 3, 9, 10, 11, 12, 7, 13, 14, 15, 16, 17, 18, 27, 28, 29, 30, 31, 32, 33, 34, 35, 36, 37, 38, 39, 40, 41, 42, 43, 44, 45, 46, 47] (by decide +kernel) (by decide +kernel)
set_option maxRecDepth 20000 in
theorem gX6_readItem_X6_readNumber : GoodIn wsX6_readItem (wsV RX6 109 RX6 yX6_readNumber wsX6_readNumber) := goodIn_app (goodIn_of _ (by decide +kernel)) ggX6_readItem_X6_readNumber
set_option maxRecDepth 20000 in
theorem ggX6_readItem_X6_takes : GoodIn wsX6_readItem wsX6_takes := goodIn_r _ [22, 3, 9, 10, 11, 12, 7, 13, 14, 15, 27, 28, 29, 30, 31, 32, 33, 34, 35, 36, 37, 38, 39, 40, 41, 42, 43, 44, 45, 46, 47] (by decide +kernel) (by decide +kernel)
set_option maxRecDepth 20000 in
theorem gX6_readItem_X6_takes : GoodIn wsX6_readItem (wsV RX6 112 RX6 yX6_takes wsX6_takes) := goodIn_app (goodIn_of _ (by decide +kernel)) ggX6_readItem_X6_takes
set_option maxRecDepth 20000 in
theorem ggX6_readItem_X6_readGroup : GoodIn wsX6_readItem wsX6_readGroup := goodIn_r _ [26, 3, 2, 9, 10, 11, 12, 7, 13, 14, 15, 16, 17, 18, 27, 28, 29, 30, 31, 32, 33, 34, 35, 36, 37, 38, 39, 40, 41, 42, 43, 44, 45, 46, 47] (by decide +kernel) (by decide +kernel)
set_option maxRecDepth 20000 in
theorem gX6_readItem_X6_readGroup : GoodIn wsX6_readItem (wsV RX6 115 RX6 yX6_readGroup wsX6_readGroup) := goodIn_app (goodIn_of _ (by decide +kernel)) ggX6_readItem_X6_readGroup
theorem dX6_readItem_0 : decode cX6_readItem 0 = .ok (.iconst 5, 1) := by decide +kernel
theorem dX6_readItem_1 : decode cX6_readItem 1 = .ok (.aload_n 0, 1) := by decide +kernel
theorem dX6_readItem_2 : decode cX6_readItem 2 = .ok (.getfield 106, 3) := by decide +kernel
theorem dX6_readItem_5 : decode cX6_readItem 5 = .ok (.imul, 1) := by decide +kernel
theorem dX6_readItem_6 : decode cX6_readItem 6 = .ok (.istore_n 1, 1) := by decide +kernel
theorem dX6_readItem_7 : decode cX6_readItem 7 = .ok (.aload_n 0, 1) := by decide +kernel
theorem dX6_readItem_8 : decode cX6_readItem 8 = .ok (.getfield 19, 3) := by decide +kernel
theorem dX6_readItem_11 : decode cX6_readItem 11 = .ok (.iload_n 1, 1) := by decide +kernel
theorem dX6_readItem_12 : decode cX6_readItem 12 = .ok (.iconst 0, 1) := by decide +kernel
theorem dX6_readItem_13 : decode cX6_readItem 13 = .ok (.iadd, 1) := by decide +kernel
theorem dX6_readItem_14 : decode cX6_readItem 14 = .ok (.aload_n 0, 1) := by decide +kernel
theorem dX6_readItem_15 : decode cX6_readItem 15 = .ok (.iconst 1, 1) := by decide +kernel
theorem dX6_readItem_16 : decode cX6_readItem 16 = .ok (.invokevirtual 109, 3) := by decide +kernel
theorem dX6_readItem_19 : decode cX6_readItem 19 = .ok (.iastore, 1) := by decide +kernel
theorem dX6_readItem_20 : decode cX6_readItem 20 = .ok (.aload_n 0, 1) := by decide +kernel
theorem dX6_readItem_21 : decode cX6_readItem 21 = .ok (.aload_n 0, 1) := by decide +kernel
theorem dX6_readItem_22 : decode cX6_readItem 22 = .ok (.getfield 98, 3) := by decide +kernel
theorem dX6_readItem_25 : decode cX6_readItem 25 = .ok (.ifCond .ne 12, 3) := by decide +kernel
theorem dX6_readItem_28 : decode cX6_readItem 28 = .ok (.aload_n 0, 1) := by decide +kernel
theorem dX6_readItem_29 : decode cX6_readItem 29 = .ok (.bipush 47, 2) := by decide +kernel
theorem dX6_readItem_31 : decode cX6_readItem 31 = .ok (.invokevirtual 112, 3) := by decide +kernel
theorem dX6_readItem_34 : decode cX6_readItem 34 = .ok (.ifCond .ne 7, 3) := by decide +kernel
theorem dX6_readItem_37 : decode cX6_readItem 37 = .ok (.iconst 1, 1) := by decide +kernel
theorem dX6_readItem_38 : decode cX6_readItem 38 = .ok (.goto 4, 3) := by decide +kernel
theorem dX6_readItem_41 : decode cX6_readItem 41 = .ok (.iconst 0, 1) := by decide +kernel
theorem dX6_readItem_42 : decode cX6_readItem 42 = .ok (.putfield 98, 3) := by decide +kernel
theorem dX6_readItem_45 : decode cX6_readItem 45 = .ok (.aload_n 0, 1) := by decide +kernel
theorem dX6_readItem_46 : decode cX6_readItem 46 = .ok (.getfield 19, 3) := by decide +kernel
theorem dX6_readItem_49 : decode cX6_readItem 49 = .ok (.iload_n 1, 1) := by decide +kernel
theorem dX6_readItem_50 : decode cX6_readItem 50 = .ok (.iconst 1, 1) := by decide +kernel
theorem dX6_readItem_51 : decode cX6_readItem 51 = .ok (.iadd, 1) := by decide +kernel
theorem dX6_readItem_52 : decode cX6_readItem 52 = .ok (.aload_n 0, 1) := by decide +kernel
theorem dX6_readItem_53 : decode cX6_readItem 53 = .ok (.iconst 1, 1) := by decide +kernel
theorem dX6_readItem_54 : decode cX6_readItem 54 = .ok (.invokevirtual 109, 3) := by decide +kernel
theorem dX6_readItem_57 : decode cX6_readItem 57 = .ok (.iastore, 1) := by decide +kernel
theorem dX6_readItem_58 : decode cX6_readItem 58 = .ok (.aload_n 0, 1) := by decide +kernel
theorem dX6_readItem_59 : decode cX6_readItem 59 = .ok (.getfield 19, 3) := by decide +kernel
theorem dX6_readItem_62 : decode cX6_readItem 62 = .ok (.iload_n 1, 1) := by decide +kernel
theorem dX6_readItem_63 : decode cX6_readItem 63 = .ok (.iconst 2, 1) := by decide +kernel
theorem dX6_readItem_64 : decode cX6_readItem 64 = .ok (.iadd, 1) := by decide +kernel
theorem dX6_readItem_65 : decode cX6_readItem 65 = .ok (.aload_n 0, 1) := by decide +kernel
theorem dX6_readItem_66 : decode cX6_readItem 66 = .ok (.bipush 43, 2) := by decide +kernel
theorem dX6_readItem_68 : decode cX6_readItem 68 = .ok (.invokevirtual 112, 3) := by decide +kernel
theorem dX6_readItem_71 : decode cX6_readItem 71 = .ok (.ifCond .eq 11, 3) := by decide +kernel
theorem dX6_readItem_74 : decode cX6_readItem 74 = .ok (.aload_n 0, 1) := by decide +kernel
theorem dX6_readItem_75 : decode cX6_readItem 75 = .ok (.iconst 0, 1) := by decide +kernel
theorem dX6_readItem_76 : decode cX6_readItem 76 = .ok (.invokevirtual 109, 3) := by decide +kernel
theorem dX6_readItem_79 : decode cX6_readItem 79 = .ok (.goto 4, 3) := by decide +kernel
theorem dX6_readItem_82 : decode cX6_readItem 82 = .ok (.iconst 0, 1) := by decide +kernel
theorem dX6_readItem_83 : decode cX6_readItem 83 = .ok (.iastore, 1) := by decide +kernel
theorem dX6_readItem_84 : decode cX6_readItem 84 = .ok (.aload_n 0, 1) := by decide +kernel
theorem dX6_readItem_85 : decode cX6_readItem 85 = .ok (.getfield 19, 3) := by decide +kernel
theorem dX6_readItem_88 : decode cX6_readItem 88 = .ok (.iload_n 1, 1) := by decide +kernel
theorem dX6_readItem_89 : decode cX6_readItem 89 = .ok (.iconst 3, 1) := by decide +kernel
theorem dX6_readItem_90 : decode cX6_readItem 90 = .ok (.iadd, 1) := by decide +kernel
theorem dX6_readItem_91 : decode cX6_readItem 91 = .ok (.aload_n 0, 1) := by decide +kernel
theorem dX6_readItem_92 : decode cX6_readItem 92 = .ok (.bipush 45, 2) := by decide +kernel
theorem dX6_readItem_94 : decode cX6_readItem 94 = .ok (.invokevirtual 112, 3) := by decide +kernel
theorem dX6_readItem_97 : decode cX6_readItem 97 = .ok (.ifCond .eq 11, 3) := by decide +kernel
theorem dX6_readItem_100 : decode cX6_readItem 100 = .ok (.aload_n 0, 1) := by decide +kernel
theorem dX6_readItem_101 : decode cX6_readItem 101 = .ok (.iconst 0, 1) := by decide +kernel
theorem dX6_readItem_102 : decode cX6_readItem 102 = .ok (.invokevirtual 109, 3) := by decide +kernel
theorem dX6_readItem_105 : decode cX6_readItem 105 = .ok (.goto 4, 3) := by decide +kernel
theorem dX6_readItem_108 : decode cX6_readItem 108 = .ok (.iconst 0, 1) := by decide +kernel
theorem dX6_readItem_109 : decode cX6_readItem 109 = .ok (.iastore, 1) := by decide +kernel
theorem dX6_readItem_110 : decode cX6_readItem 110 = .ok (.aload_n 0, 1) := by decide +kernel
theorem dX6_readItem_111 : decode cX6_readItem 111 = .ok (.getfield 19, 3) := by decide +kernel
theorem dX6_readItem_114 : decode cX6_readItem 114 = .ok (.iload_n 1, 1) := by decide +kernel
theorem dX6_readItem_115 : decode cX6_readItem 115 = .ok (.iconst 4, 1) := by decide +kernel
theorem dX6_readItem_116 : decode cX6_readItem 116 = .ok (.iadd, 1) := by decide +kernel
theorem dX6_readItem_117 : decode cX6_readItem 117 = .ok (.bipush (-6), 2) := by decide +kernel
theorem dX6_readItem_119 : decode cX6_readItem 119 = .ok (.iastore, 1) := by decide +kernel
theorem dX6_readItem_120 : decode cX6_readItem 120 = .ok (.aload_n 0, 1) := by decide +kernel
theorem dX6_readItem_121 : decode cX6_readItem 121 = .ok (.bipush 64, 2) := by decide +kernel
theorem dX6_readItem_123 : decode cX6_readItem 123 = .ok (.invokevirtual 112, 3) := by decide +kernel
theorem dX6_readItem_126 : decode cX6_readItem 126 = .ok (.ifCond .eq 8, 3) := by decide +kernel
theorem dX6_readItem_129 : decode cX6_readItem 129 = .ok (.aload_n 0, 1) := by decide +kernel
theorem dX6_readItem_130 : decode cX6_readItem 130 = .ok (.iload_n 1, 1) := by decide +kernel
theorem dX6_readItem_131 : decode cX6_readItem 131 = .ok (.invokevirtual 115, 3) := by decide +kernel
theorem dX6_readItem_134 : decode cX6_readItem 134 = .ok (.aload_n 0, 1) := by decide +kernel
theorem dX6_readItem_135 : decode cX6_readItem 135 = .ok (.dup, 1) := by decide +kernel
theorem dX6_readItem_136 : decode cX6_readItem 136 = .ok (.getfield 106, 3) := by decide +kernel
theorem dX6_readItem_139 : decode cX6_readItem 139 = .ok (.iconst 1, 1) := by decide +kernel
theorem dX6_readItem_140 : decode cX6_readItem 140 = .ok (.iadd, 1) := by decide +kernel
theorem dX6_readItem_141 : decode cX6_readItem 141 = .ok (.putfield 106, 3) := by decide +kernel
theorem dX6_readItem_144 : decode cX6_readItem 144 = .ok (.return_, 1) := by decide +kernel
set_option maxRecDepth 20000 in
theorem ggX6_fault_X6_readItem : GoodIn wsX6_fault wsX6_readItem := goodIn_r _ [9, 3, 10, 2, 11, 12, 13, 8, 14, 1, 15, 16, 17, 18, 4, 19, 20, 21, 22, 23, 24, 25, 26, 27, 28, 29, 30, 31, 32, 33, 34, 35, 36, 37, 38, 39, 40, 41, 42, 43, 44, 45, 46, 47, 48, 49, 50, 51] (by decide +kernel) (by decide +kernel)
set_option maxRecDepth 20000 in
theorem gX6_fault_X6_readItem : GoodIn wsX6_fault (wsV RX6 119 RX6 yX6_readItem wsX6_readItem) := goodIn_app (goodIn_of _ (by decide +kernel)) ggX6_fault_X6_readItem
set_option maxRecDepth 20000 in
theorem ggX6_fault_X6_takes : GoodIn wsX6_fault wsX6_takes := goodIn_r _ [26, 2, 1, 15, 16, 17, 8, 18, 4, 19, 31, 32, 33, 34, 35, 36, 37, 38, 39, 40, 41, 42, 43, 44, 45, 46, 47, 48, 49, 50, 51] (by decide +kernel) (by decide +kernel)
set_option maxRecDepth 20000 in
theorem gX6_fault_X6_takes : GoodIn wsX6_fault (wsV RX6 112 RX6 yX6_takes wsX6_takes) := goodIn_app (goodIn_of _ (by decide +kernel)) ggX6_fault_X6_takes
theorem dX6_fault_0 : decode cX6_fault 0 = .ok (.aload_n 0, 1) := by decide +kernel
theorem dX6_fault_1 : decode cX6_fault 1 = .ok (.iconst 0, 1) := by decide +kernel
theorem dX6_fault_2 : decode cX6_fault 2 = .ok (.putfield 95, 3) := by decide +kernel
theorem dX6_fault_5 : decode cX6_fault 5 = .ok (.aload_n 0, 1) := by decide +kernel
theorem dX6_fault_6 : decode cX6_fault 6 = .ok (.iconst 0, 1) := by decide +kernel
theorem dX6_fault_7 : decode cX6_fault 7 = .ok (.putfield 98, 3) := by decide +kernel
theorem dX6_fault_10 : decode cX6_fault 10 = .ok (.aload_n 0, 1) := by decide +kernel
theorem dX6_fault_11 : decode cX6_fault 11 = .ok (.iconst 0, 1) := by decide +kernel
theorem dX6_fault_12 : decode cX6_fault 12 = .ok (.putfield 106, 3) := by decide +kernel
theorem dX6_fault_15 : decode cX6_fault 15 = .ok (.aload_n 0, 1) := by decide +kernel
theorem dX6_fault_16 : decode cX6_fault 16 = .ok (.invokevirtual 119, 3) := by decide +kernel
theorem dX6_fault_19 : decode cX6_fault 19 = .ok (.aload_n 0, 1) := by decide +kernel
theorem dX6_fault_20 : decode cX6_fault 20 = .ok (.bipush 59, 2) := by decide +kernel
theorem dX6_fault_22 : decode cX6_fault 22 = .ok (.invokevirtual 112, 3) := by decide +kernel
theorem dX6_fault_25 : decode cX6_fault 25 = .ok (.ifCond .eq 10, 3) := by decide +kernel
theorem dX6_fault_28 : decode cX6_fault 28 = .ok (.aload_n 0, 1) := by decide +kernel
theorem dX6_fault_29 : decode cX6_fault 29 = .ok (.invokevirtual 119, 3) := by decide +kernel
theorem dX6_fault_32 : decode cX6_fault 32 = .ok (.goto (-13), 3) := by decide +kernel
theorem dX6_fault_35 : decode cX6_fault 35 = .ok (.aload_n 0, 1) := by decide +kernel
theorem dX6_fault_36 : decode cX6_fault 36 = .ok (.getfield 98, 3) := by decide +kernel
theorem dX6_fault_39 : decode cX6_fault 39 = .ok (.ifCond .ne 14, 3) := by decide +kernel
theorem dX6_fault_42 : decode cX6_fault 42 = .ok (.aload_n 0, 1) := by decide +kernel
theorem dX6_fault_43 : decode cX6_fault 43 = .ok (.getfield 95, 3) := by decide +kernel
theorem dX6_fault_46 : decode cX6_fault 46 = .ok (.aload_n 0, 1) := by decide +kernel
theorem dX6_fault_47 : decode cX6_fault 47 = .ok (.getfield 92, 3) := by decide +kernel
theorem dX6_fault_50 : decode cX6_fault 50 = .ok (.if_icmp .ge 10, 3) := by decide +kernel
theorem dX6_fault_53 : decode cX6_fault 53 = .ok (.aload_n 0, 1) := by decide +kernel
theorem dX6_fault_54 : decode cX6_fault 54 = .ok (.getfield 95, 3) := by decide +kernel
theorem dX6_fault_57 : decode cX6_fault 57 = .ok (.goto 5, 3) := by decide +kernel
theorem dX6_fault_60 : decode cX6_fault 60 = .ok (.bipush (-6), 2) := by decide +kernel
theorem dX6_fault_62 : decode cX6_fault 62 = .ok (.ireturn, 1) := by decide +kernel
set_option maxRecDepth 20000 in
theorem ggX6_load_X6_fault : GoodIn wsX6_load wsX6_fault := goodIn_r _ [9, 10, 11, 2, 4, 12, 13, 14, 8, 15, 3, 16, 17, 18, 19, 20, 21, 22, 23, 24, 25, 26, 27, 28, 29, 30, 31, 32, 33, 34, 35, 46, 47, 48, 49, 50, 51, 52, 53, 54, 55, 56, 57, 58, 59, 60, 61, 62, 63, 64, 65, 66] (by decide +kernel) (by decide +kernel)
set_option maxRecDepth 20000 in
theorem gX6_load_X6_fault : GoodIn wsX6_load (wsV RX6 122 RX6 yX6_fault wsX6_fault) := goodIn_app (goodIn_of _ (by decide +kernel)) ggX6_load_X6_fault
set_option maxRecDepth 20000 in
theorem ggX6_load_X6_record : GoodIn wsX6_load wsX6_record := goodIn_r _ [39, 40, 41, 1, 46, 47, 48, 49, 50, 51, 52, 53, 54, 55, 56, 57, 58, 59, 60, 61, 62, 63, 64, 65, 66] (by decide +kernel) (by decide +kernel)
set_option maxRecDepth 20000 in
theorem gX6_load_X6_record : GoodIn wsX6_load (wsV RX6 61 RX6 yX6_record wsX6_record) := goodIn_app (goodIn_of _ (by decide +kernel)) ggX6_load_X6_record
set_option maxRecDepth 20000 in
theorem ggX6_load_X6_append : GoodIn wsX6_load wsX6_append := goodIn_r _ [45, 1, 46, 47, 48, 49, 50, 51, 52, 53, 54, 55, 56, 57, 58, 59, 60, 61, 62, 63, 64, 65, 66] (by decide +kernel) (by decide +kernel)
set_option maxRecDepth 20000 in
theorem gX6_load_X6_append : GoodIn wsX6_load (wsV RX6 64 RX6 yX6_append wsX6_append) := goodIn_app (goodIn_of _ (by decide +kernel)) ggX6_load_X6_append
theorem dX6_load_0 : decode cX6_load 0 = .ok (.aload_n 0, 1) := by decide +kernel
theorem dX6_load_1 : decode cX6_load 1 = .ok (.invokevirtual 122, 3) := by decide +kernel
theorem dX6_load_4 : decode cX6_load 4 = .ok (.bipush (-6), 2) := by decide +kernel
theorem dX6_load_6 : decode cX6_load 6 = .ok (.if_icmp .eq 6, 3) := by decide +kernel
theorem dX6_load_9 : decode cX6_load 9 = .ok (.bipush (-3), 2) := by decide +kernel
theorem dX6_load_11 : decode cX6_load 11 = .ok (.ireturn, 1) := by decide +kernel
theorem dX6_load_12 : decode cX6_load 12 = .ok (.aload_n 0, 1) := by decide +kernel
theorem dX6_load_13 : decode cX6_load 13 = .ok (.getfield 7, 3) := by decide +kernel
theorem dX6_load_16 : decode cX6_load 16 = .ok (.iconst 0, 1) := by decide +kernel
theorem dX6_load_17 : decode cX6_load 17 = .ok (.iaload, 1) := by decide +kernel
theorem dX6_load_18 : decode cX6_load 18 = .ok (.aload_n 0, 1) := by decide +kernel
theorem dX6_load_19 : decode cX6_load 19 = .ok (.getfield 106, 3) := by decide +kernel
theorem dX6_load_22 : decode cX6_load 22 = .ok (.iadd, 1) := by decide +kernel
theorem dX6_load_23 : decode cX6_load 23 = .ok (.bipush 12, 2) := by decide +kernel
theorem dX6_load_25 : decode cX6_load 25 = .ok (.if_icmp .le 6, 3) := by decide +kernel
theorem dX6_load_28 : decode cX6_load 28 = .ok (.bipush (-4), 2) := by decide +kernel
theorem dX6_load_30 : decode cX6_load 30 = .ok (.ireturn, 1) := by decide +kernel
theorem dX6_load_31 : decode cX6_load 31 = .ok (.aload_n 0, 1) := by decide +kernel
theorem dX6_load_32 : decode cX6_load 32 = .ok (.invokevirtual 61, 3) := by decide +kernel
theorem dX6_load_35 : decode cX6_load 35 = .ok (.iconst 0, 1) := by decide +kernel
theorem dX6_load_36 : decode cX6_load 36 = .ok (.istore_n 1, 1) := by decide +kernel
theorem dX6_load_37 : decode cX6_load 37 = .ok (.iload_n 1, 1) := by decide +kernel
theorem dX6_load_38 : decode cX6_load 38 = .ok (.aload_n 0, 1) := by decide +kernel
theorem dX6_load_39 : decode cX6_load 39 = .ok (.getfield 106, 3) := by decide +kernel
theorem dX6_load_42 : decode cX6_load 42 = .ok (.if_icmp .ge 55, 3) := by decide +kernel
theorem dX6_load_45 : decode cX6_load 45 = .ok (.iconst 5, 1) := by decide +kernel
theorem dX6_load_46 : decode cX6_load 46 = .ok (.iload_n 1, 1) := by decide +kernel
theorem dX6_load_47 : decode cX6_load 47 = .ok (.imul, 1) := by decide +kernel
theorem dX6_load_48 : decode cX6_load 48 = .ok (.istore_n 2, 1) := by decide +kernel
theorem dX6_load_49 : decode cX6_load 49 = .ok (.aload_n 0, 1) := by decide +kernel
theorem dX6_load_50 : decode cX6_load 50 = .ok (.aload_n 0, 1) := by decide +kernel
theorem dX6_load_51 : decode cX6_load 51 = .ok (.getfield 19, 3) := by decide +kernel
theorem dX6_load_54 : decode cX6_load 54 = .ok (.iload_n 2, 1) := by decide +kernel
theorem dX6_load_55 : decode cX6_load 55 = .ok (.iaload, 1) := by decide +kernel
theorem dX6_load_56 : decode cX6_load 56 = .ok (.aload_n 0, 1) := by decide +kernel
theorem dX6_load_57 : decode cX6_load 57 = .ok (.getfield 19, 3) := by decide +kernel
theorem dX6_load_60 : decode cX6_load 60 = .ok (.iload_n 2, 1) := by decide +kernel
theorem dX6_load_61 : decode cX6_load 61 = .ok (.iconst 1, 1) := by decide +kernel
theorem dX6_load_62 : decode cX6_load 62 = .ok (.iadd, 1) := by decide +kernel
theorem dX6_load_63 : decode cX6_load 63 = .ok (.iaload, 1) := by decide +kernel
theorem dX6_load_64 : decode cX6_load 64 = .ok (.aload_n 0, 1) := by decide +kernel
theorem dX6_load_65 : decode cX6_load 65 = .ok (.getfield 19, 3) := by decide +kernel
theorem dX6_load_68 : decode cX6_load 68 = .ok (.iload_n 2, 1) := by decide +kernel
theorem dX6_load_69 : decode cX6_load 69 = .ok (.iconst 2, 1) := by decide +kernel
theorem dX6_load_70 : decode cX6_load 70 = .ok (.iadd, 1) := by decide +kernel
theorem dX6_load_71 : decode cX6_load 71 = .ok (.iaload, 1) := by decide +kernel
theorem dX6_load_72 : decode cX6_load 72 = .ok (.aload_n 0, 1) := by decide +kernel
theorem dX6_load_73 : decode cX6_load 73 = .ok (.getfield 19, 3) := by decide +kernel
theorem dX6_load_76 : decode cX6_load 76 = .ok (.iload_n 2, 1) := by decide +kernel
theorem dX6_load_77 : decode cX6_load 77 = .ok (.iconst 3, 1) := by decide +kernel
theorem dX6_load_78 : decode cX6_load 78 = .ok (.iadd, 1) := by decide +kernel
theorem dX6_load_79 : decode cX6_load 79 = .ok (.iaload, 1) := by decide +kernel
theorem dX6_load_80 : decode cX6_load 80 = .ok (.aload_n 0, 1) := by decide +kernel
theorem dX6_load_81 : decode cX6_load 81 = .ok (.getfield 19, 3) := by decide +kernel
theorem dX6_load_84 : decode cX6_load 84 = .ok (.iload_n 2, 1) := by decide +kernel
theorem dX6_load_85 : decode cX6_load 85 = .ok (.iconst 4, 1) := by decide +kernel
theorem dX6_load_86 : decode cX6_load 86 = .ok (.iadd, 1) := by decide +kernel
theorem dX6_load_87 : decode cX6_load 87 = .ok (.iaload, 1) := by decide +kernel
theorem dX6_load_88 : decode cX6_load 88 = .ok (.invokevirtual 64, 3) := by decide +kernel
theorem dX6_load_91 : decode cX6_load 91 = .ok (.iinc 1 1, 3) := by decide +kernel
theorem dX6_load_94 : decode cX6_load 94 = .ok (.goto (-57), 3) := by decide +kernel
theorem dX6_load_97 : decode cX6_load 97 = .ok (.aload_n 0, 1) := by decide +kernel
theorem dX6_load_98 : decode cX6_load 98 = .ok (.iconst 0, 1) := by decide +kernel
theorem dX6_load_99 : decode cX6_load 99 = .ok (.putfield 92, 3) := by decide +kernel
theorem dX6_load_102 : decode cX6_load 102 = .ok (.aload_n 0, 1) := by decide +kernel
theorem dX6_load_103 : decode cX6_load 103 = .ok (.getfield 106, 3) := by decide +kernel
theorem dX6_load_106 : decode cX6_load 106 = .ok (.ireturn, 1) := by decide +kernel
set_option maxRecDepth 20000 in
theorem ggX6_sum_X6_has : GoodIn wsX6_sum wsX6_has := goodIn_r _ [5] (by decide +kernel) (by decide +kernel)
set_option maxRecDepth 20000 in
theorem gX6_sum_X6_has : GoodIn wsX6_sum (va_wsS RX6 83 yX6_has wsX6_has) := goodIn_app (goodIn_of _ (by decide +kernel)) ggX6_sum_X6_has
set_option maxRecDepth 20000 in
theorem ggX6_sum_X6_of : GoodIn wsX6_sum wsX6_of := goodIn_r _ [9, 1, 10, 11, 12, 13, 14, 15, 16, 17, 18, 19, 20, 21, 22, 23, 24, 25, 26, 27, 28, 29, 30] (by decide +kernel) (by decide +kernel)
set_option maxRecDepth 20000 in
theorem gX6_sum_X6_of : GoodIn wsX6_sum (wsV RX6 72 RX6 yX6_of wsX6_of) := goodIn_app (goodIn_of _ (by decide +kernel)) ggX6_sum_X6_of
theorem dX6_sum_0 : decode cX6_sum 0 = .ok (.iconst 0, 1) := by decide +kernel
theorem dX6_sum_1 : decode cX6_sum 1 = .ok (.istore_n 3, 1) := by decide +kernel
theorem dX6_sum_2 : decode cX6_sum 2 = .ok (.iconst 0, 1) := by decide +kernel
theorem dX6_sum_3 : decode cX6_sum 3 = .ok (.istore 4, 2) := by decide +kernel
theorem dX6_sum_5 : decode cX6_sum 5 = .ok (.iload 4, 2) := by decide +kernel
theorem dX6_sum_7 : decode cX6_sum 7 = .ok (.aload_n 0, 1) := by decide +kernel
theorem dX6_sum_8 : decode cX6_sum 8 = .ok (.getfield 7, 3) := by decide +kernel
theorem dX6_sum_11 : decode cX6_sum 11 = .ok (.iconst 0, 1) := by decide +kernel
theorem dX6_sum_12 : decode cX6_sum 12 = .ok (.iaload, 1) := by decide +kernel
theorem dX6_sum_13 : decode cX6_sum 13 = .ok (.if_icmp .ge 32, 3) := by decide +kernel
theorem dX6_sum_16 : decode cX6_sum 16 = .ok (.iload_n 3, 1) := by decide +kernel
theorem dX6_sum_17 : decode cX6_sum 17 = .ok (.iload_n 1, 1) := by decide +kernel
theorem dX6_sum_18 : decode cX6_sum 18 = .ok (.iload 4, 2) := by decide +kernel
theorem dX6_sum_20 : decode cX6_sum 20 = .ok (.invokestatic 83, 3) := by decide +kernel
theorem dX6_sum_23 : decode cX6_sum 23 = .ok (.ifCond .eq 13, 3) := by decide +kernel
theorem dX6_sum_26 : decode cX6_sum 26 = .ok (.aload_n 0, 1) := by decide +kernel
theorem dX6_sum_27 : decode cX6_sum 27 = .ok (.iload 4, 2) := by decide +kernel
theorem dX6_sum_29 : decode cX6_sum 29 = .ok (.iload_n 2, 1) := by decide +kernel
theorem dX6_sum_30 : decode cX6_sum 30 = .ok (.invokevirtual 72, 3) := by decide +kernel
theorem dX6_sum_33 : decode cX6_sum 33 = .ok (.goto 4, 3) := by decide +kernel
theorem dX6_sum_36 : decode cX6_sum 36 = .ok (.iconst 0, 1) := by decide +kernel
theorem dX6_sum_37 : decode cX6_sum 37 = .ok (.iadd, 1) := by decide +kernel
theorem dX6_sum_38 : decode cX6_sum 38 = .ok (.istore_n 3, 1) := by decide +kernel
theorem dX6_sum_39 : decode cX6_sum 39 = .ok (.iinc 4 1, 3) := by decide +kernel
theorem dX6_sum_42 : decode cX6_sum 42 = .ok (.goto (-37), 3) := by decide +kernel
theorem dX6_sum_45 : decode cX6_sum 45 = .ok (.iload_n 3, 1) := by decide +kernel
theorem dX6_sum_46 : decode cX6_sum 46 = .ok (.ireturn, 1) := by decide +kernel
set_option maxRecDepth 20000 in
theorem ggX6_worst_X6_has : GoodIn wsX6_worst wsX6_has := goodIn_r _ [5] (by decide +kernel) (by decide +kernel)
set_option maxRecDepth 20000 in
theorem gX6_worst_X6_has : GoodIn wsX6_worst (va_wsS RX6 83 yX6_has wsX6_has) := goodIn_app (goodIn_of _ (by decide +kernel)) ggX6_worst_X6_has
set_option maxRecDepth 20000 in
theorem ggX6_worst_X6_of : GoodIn wsX6_worst wsX6_of := goodIn_r _ [9, 1, 10, 11, 12, 13, 14, 15, 16, 17, 18, 19, 20, 21, 22, 23, 24, 25, 26, 27, 28, 29, 30] (by decide +kernel) (by decide +kernel)
set_option maxRecDepth 20000 in
theorem gX6_worst_X6_of : GoodIn wsX6_worst (wsV RX6 72 RX6 yX6_of wsX6_of) := goodIn_app (goodIn_of _ (by decide +kernel)) ggX6_worst_X6_of
theorem dX6_worst_0 : decode cX6_worst 0 = .ok (.iconst 0, 1) := by decide +kernel
theorem dX6_worst_1 : decode cX6_worst 1 = .ok (.istore 4, 2) := by decide +kernel
theorem dX6_worst_3 : decode cX6_worst 3 = .ok (.iconst 0, 1) := by decide +kernel
theorem dX6_worst_4 : decode cX6_worst 4 = .ok (.istore 5, 2) := by decide +kernel
theorem dX6_worst_6 : decode cX6_worst 6 = .ok (.iload 5, 2) := by decide +kernel
theorem dX6_worst_8 : decode cX6_worst 8 = .ok (.iload_n 3, 1) := by decide +kernel
theorem dX6_worst_9 : decode cX6_worst 9 = .ok (.if_icmp .ge 122, 3) := by decide +kernel
theorem dX6_worst_12 : decode cX6_worst 12 = .ok (.bipush (-6), 2) := by decide +kernel
theorem dX6_worst_14 : decode cX6_worst 14 = .ok (.istore 6, 2) := by decide +kernel
theorem dX6_worst_16 : decode cX6_worst 16 = .ok (.iconst 0, 1) := by decide +kernel
theorem dX6_worst_17 : decode cX6_worst 17 = .ok (.istore 7, 2) := by decide +kernel
theorem dX6_worst_19 : decode cX6_worst 19 = .ok (.iload 7, 2) := by decide +kernel
theorem dX6_worst_21 : decode cX6_worst 21 = .ok (.aload_n 0, 1) := by decide +kernel
theorem dX6_worst_22 : decode cX6_worst 22 = .ok (.getfield 7, 3) := by decide +kernel
theorem dX6_worst_25 : decode cX6_worst 25 = .ok (.iconst 0, 1) := by decide +kernel
theorem dX6_worst_26 : decode cX6_worst 26 = .ok (.iaload, 1) := by decide +kernel
theorem dX6_worst_27 : decode cX6_worst 27 = .ok (.if_icmp .ge 81, 3) := by decide +kernel
theorem dX6_worst_30 : decode cX6_worst 30 = .ok (.iload_n 1, 1) := by decide +kernel
theorem dX6_worst_31 : decode cX6_worst 31 = .ok (.iload 7, 2) := by decide +kernel
theorem dX6_worst_33 : decode cX6_worst 33 = .ok (.invokestatic 83, 3) := by decide +kernel
theorem dX6_worst_36 : decode cX6_worst 36 = .ok (.ifCond .eq 27, 3) := by decide +kernel
theorem dX6_worst_39 : decode cX6_worst 39 = .ok (.iload 4, 2) := by decide +kernel
theorem dX6_worst_41 : decode cX6_worst 41 = .ok (.iload 7, 2) := by decide +kernel
theorem dX6_worst_43 : decode cX6_worst 43 = .ok (.invokestatic 83, 3) := by decide +kernel
theorem dX6_worst_46 : decode cX6_worst 46 = .ok (.ifCond .ne 17, 3) := by decide +kernel
theorem dX6_worst_49 : decode cX6_worst 49 = .ok (.aload_n 0, 1) := by decide +kernel
theorem dX6_worst_50 : decode cX6_worst 50 = .ok (.iload 7, 2) := by decide +kernel
theorem dX6_worst_52 : decode cX6_worst 52 = .ok (.iload_n 2, 1) := by decide +kernel
theorem dX6_worst_53 : decode cX6_worst 53 = .ok (.invokevirtual 72, 3) := by decide +kernel
theorem dX6_worst_56 : decode cX6_worst 56 = .ok (.ifCond .le 7, 3) := by decide +kernel
theorem dX6_worst_59 : decode cX6_worst 59 = .ok (.iconst 1, 1) := by decide +kernel
theorem dX6_worst_60 : decode cX6_worst 60 = .ok (.goto 4, 3) := by decide +kernel
theorem dX6_worst_63 : decode cX6_worst 63 = .ok (.iconst 0, 1) := by decide +kernel
theorem dX6_worst_64 : decode cX6_worst 64 = .ok (.istore 8, 2) := by decide +kernel
theorem dX6_worst_66 : decode cX6_worst 66 = .ok (.iload 8, 2) := by decide +kernel
theorem dX6_worst_68 : decode cX6_worst 68 = .ok (.ifCond .eq 30, 3) := by decide +kernel
theorem dX6_worst_71 : decode cX6_worst 71 = .ok (.iload 6, 2) := by decide +kernel
theorem dX6_worst_73 : decode cX6_worst 73 = .ok (.ifCond .lt 20, 3) := by decide +kernel
theorem dX6_worst_76 : decode cX6_worst 76 = .ok (.aload_n 0, 1) := by decide +kernel
theorem dX6_worst_77 : decode cX6_worst 77 = .ok (.iload 7, 2) := by decide +kernel
theorem dX6_worst_79 : decode cX6_worst 79 = .ok (.iload_n 2, 1) := by decide +kernel
theorem dX6_worst_80 : decode cX6_worst 80 = .ok (.invokevirtual 72, 3) := by decide +kernel
theorem dX6_worst_83 : decode cX6_worst 83 = .ok (.aload_n 0, 1) := by decide +kernel
theorem dX6_worst_84 : decode cX6_worst 84 = .ok (.iload 6, 2) := by decide +kernel
theorem dX6_worst_86 : decode cX6_worst 86 = .ok (.iload_n 2, 1) := by decide +kernel
theorem dX6_worst_87 : decode cX6_worst 87 = .ok (.invokevirtual 72, 3) := by decide +kernel
theorem dX6_worst_90 : decode cX6_worst 90 = .ok (.if_icmp .le 8, 3) := by decide +kernel
theorem dX6_worst_93 : decode cX6_worst 93 = .ok (.iload 7, 2) := by decide +kernel
theorem dX6_worst_95 : decode cX6_worst 95 = .ok (.goto 5, 3) := by decide +kernel
theorem dX6_worst_98 : decode cX6_worst 98 = .ok (.iload 6, 2) := by decide +kernel
theorem dX6_worst_100 : decode cX6_worst 100 = .ok (.istore 6, 2) := by decide +kernel
theorem dX6_worst_102 : decode cX6_worst 102 = .ok (.iinc 7 1, 3) := by decide +kernel
theorem dX6_worst_105 : decode cX6_worst 105 = .ok (.goto (-86), 3) := by decide +kernel
theorem dX6_worst_108 : decode cX6_worst 108 = .ok (.iload 6, 2) := by decide +kernel
theorem dX6_worst_110 : decode cX6_worst 110 = .ok (.ifCond .ge 6, 3) := by decide +kernel
theorem dX6_worst_113 : decode cX6_worst 113 = .ok (.iload 4, 2) := by decide +kernel
theorem dX6_worst_115 : decode cX6_worst 115 = .ok (.ireturn, 1) := by decide +kernel
theorem dX6_worst_116 : decode cX6_worst 116 = .ok (.iload 4, 2) := by decide +kernel
theorem dX6_worst_118 : decode cX6_worst 118 = .ok (.iconst 1, 1) := by decide +kernel
theorem dX6_worst_119 : decode cX6_worst 119 = .ok (.iload 6, 2) := by decide +kernel
theorem dX6_worst_121 : decode cX6_worst 121 = .ok (.ishl, 1) := by decide +kernel
theorem dX6_worst_122 : decode cX6_worst 122 = .ok (.ior, 1) := by decide +kernel
theorem dX6_worst_123 : decode cX6_worst 123 = .ok (.istore 4, 2) := by decide +kernel
theorem dX6_worst_125 : decode cX6_worst 125 = .ok (.iinc 5 1, 3) := by decide +kernel
theorem dX6_worst_128 : decode cX6_worst 128 = .ok (.goto (-122), 3) := by decide +kernel
theorem dX6_worst_131 : decode cX6_worst 131 = .ok (.iload 4, 2) := by decide +kernel
theorem dX6_worst_133 : decode cX6_worst 133 = .ok (.ireturn, 1) := by decide +kernel
set_option maxRecDepth 20000 in
theorem ggX6_protectedWeight_X6_sum : GoodIn wsX6_protectedWeight wsX6_sum := goodIn_r _ [5, 6, 7, 8, 4, 9, 10, 11, 12, 13, 18, 19, 20, 21, 22, 23, 24, 25, 26, 27, 28, 29, 30, 31, 32, 33, 34, 35, 36, 37, 38] (by decide +kernel) (by decide +kernel)
set_option maxRecDepth 20000 in
theorem gX6_protectedWeight_X6_sum : GoodIn wsX6_protectedWeight (wsV RX6 125 RX6 yX6_sum wsX6_sum) := goodIn_app (goodIn_of _ (by decide +kernel)) ggX6_protectedWeight_X6_sum
set_option maxRecDepth 20000 in
theorem ggX6_protectedWeight_X6_worst : GoodIn wsX6_protectedWeight wsX6_worst := goodIn_r _ [17, 6, 7, 8, 4, 9, 10, 11, 12, 13, 18, 19, 20, 21, 22, 23, 24, 25, 26, 27, 28, 29, 30, 31, 32, 33, 34, 35, 36, 37, 38] (by decide +kernel) (by decide +kernel)
set_option maxRecDepth 20000 in
theorem gX6_protectedWeight_X6_worst : GoodIn wsX6_protectedWeight (wsV RX6 128 RX6 yX6_worst wsX6_worst) := goodIn_app (goodIn_of _ (by decide +kernel)) ggX6_protectedWeight_X6_worst
theorem dX6_protectedWeight_0 : decode cX6_protectedWeight 0 = .ok (.aload_n 0, 1) := by decide +kernel
theorem dX6_protectedWeight_1 : decode cX6_protectedWeight 1 = .ok (.iload_n 1, 1) := by decide +kernel
theorem dX6_protectedWeight_2 : decode cX6_protectedWeight 2 = .ok (.iconst 1, 1) := by decide +kernel
theorem dX6_protectedWeight_3 : decode cX6_protectedWeight 3 = .ok (.invokevirtual 125, 3) := by decide +kernel
theorem dX6_protectedWeight_6 : decode cX6_protectedWeight 6 = .ok (.aload_n 0, 1) := by decide +kernel
theorem dX6_protectedWeight_7 : decode cX6_protectedWeight 7 = .ok (.aload_n 0, 1) := by decide +kernel
theorem dX6_protectedWeight_8 : decode cX6_protectedWeight 8 = .ok (.iload_n 1, 1) := by decide +kernel
theorem dX6_protectedWeight_9 : decode cX6_protectedWeight 9 = .ok (.iconst 2, 1) := by decide +kernel
theorem dX6_protectedWeight_10 : decode cX6_protectedWeight 10 = .ok (.iload_n 2, 1) := by decide +kernel
theorem dX6_protectedWeight_11 : decode cX6_protectedWeight 11 = .ok (.invokevirtual 128, 3) := by decide +kernel
theorem dX6_protectedWeight_14 : decode cX6_protectedWeight 14 = .ok (.iconst 2, 1) := by decide +kernel
theorem dX6_protectedWeight_15 : decode cX6_protectedWeight 15 = .ok (.invokevirtual 125, 3) := by decide +kernel
theorem dX6_protectedWeight_18 : decode cX6_protectedWeight 18 = .ok (.iadd, 1) := by decide +kernel
theorem dX6_protectedWeight_19 : decode cX6_protectedWeight 19 = .ok (.ireturn, 1) := by decide +kernel
set_option maxRecDepth 20000 in
theorem ggX6_protectedProfit_X6_sum : GoodIn wsX6_protectedProfit wsX6_sum := goodIn_r _ [5, 6, 7, 8, 4, 9, 10, 11, 12, 13, 18, 19, 20, 21, 22, 23, 24, 25, 26, 27, 28, 29, 30, 31, 32, 33, 34, 35, 36, 37, 38] (by decide +kernel) (by decide +kernel)
set_option maxRecDepth 20000 in
theorem gX6_protectedProfit_X6_sum : GoodIn wsX6_protectedProfit (wsV RX6 125 RX6 yX6_sum wsX6_sum) := goodIn_app (goodIn_of _ (by decide +kernel)) ggX6_protectedProfit_X6_sum
set_option maxRecDepth 20000 in
theorem ggX6_protectedProfit_X6_worst : GoodIn wsX6_protectedProfit wsX6_worst := goodIn_r _ [17, 6, 7, 8, 4, 9, 10, 11, 12, 13, 18, 19, 20, 21, 22, 23, 24, 25, 26, 27, 28, 29, 30, 31, 32, 33, 34, 35, 36, 37, 38] (by decide +kernel) (by decide +kernel)
set_option maxRecDepth 20000 in
theorem gX6_protectedProfit_X6_worst : GoodIn wsX6_protectedProfit (wsV RX6 128 RX6 yX6_worst wsX6_worst) := goodIn_app (goodIn_of _ (by decide +kernel)) ggX6_protectedProfit_X6_worst
theorem dX6_protectedProfit_0 : decode cX6_protectedProfit 0 = .ok (.aload_n 0, 1) := by decide +kernel
theorem dX6_protectedProfit_1 : decode cX6_protectedProfit 1 = .ok (.iload_n 1, 1) := by decide +kernel
theorem dX6_protectedProfit_2 : decode cX6_protectedProfit 2 = .ok (.iconst 0, 1) := by decide +kernel
theorem dX6_protectedProfit_3 : decode cX6_protectedProfit 3 = .ok (.invokevirtual 125, 3) := by decide +kernel
theorem dX6_protectedProfit_6 : decode cX6_protectedProfit 6 = .ok (.aload_n 0, 1) := by decide +kernel
theorem dX6_protectedProfit_7 : decode cX6_protectedProfit 7 = .ok (.aload_n 0, 1) := by decide +kernel
theorem dX6_protectedProfit_8 : decode cX6_protectedProfit 8 = .ok (.iload_n 1, 1) := by decide +kernel
theorem dX6_protectedProfit_9 : decode cX6_protectedProfit 9 = .ok (.iconst 3, 1) := by decide +kernel
theorem dX6_protectedProfit_10 : decode cX6_protectedProfit 10 = .ok (.iload_n 2, 1) := by decide +kernel
theorem dX6_protectedProfit_11 : decode cX6_protectedProfit 11 = .ok (.invokevirtual 128, 3) := by decide +kernel
theorem dX6_protectedProfit_14 : decode cX6_protectedProfit 14 = .ok (.iconst 3, 1) := by decide +kernel
theorem dX6_protectedProfit_15 : decode cX6_protectedProfit 15 = .ok (.invokevirtual 125, 3) := by decide +kernel
theorem dX6_protectedProfit_18 : decode cX6_protectedProfit 18 = .ok (.isub, 1) := by decide +kernel
theorem dX6_protectedProfit_19 : decode cX6_protectedProfit 19 = .ok (.ireturn, 1) := by decide +kernel
set_option maxRecDepth 20000 in
theorem ggX6_isAllowed_X6_has : GoodIn wsX6_isAllowed wsX6_has := goodIn_r _ [5] (by decide +kernel) (by decide +kernel)
set_option maxRecDepth 20000 in
theorem gX6_isAllowed_X6_has : GoodIn wsX6_isAllowed (va_wsS RX6 83 yX6_has wsX6_has) := goodIn_app (goodIn_of _ (by decide +kernel)) ggX6_isAllowed_X6_has
set_option maxRecDepth 20000 in
theorem ggX6_isAllowed_X6_of : GoodIn wsX6_isAllowed wsX6_of := goodIn_r _ [9, 1, 10, 11, 12, 13, 14, 15, 16, 17, 18, 19, 20, 21, 22, 23, 24, 25, 26, 27, 28, 29, 30] (by decide +kernel) (by decide +kernel)
set_option maxRecDepth 20000 in
theorem gX6_isAllowed_X6_of : GoodIn wsX6_isAllowed (wsV RX6 72 RX6 yX6_of wsX6_of) := goodIn_app (goodIn_of _ (by decide +kernel)) ggX6_isAllowed_X6_of
theorem dX6_isAllowed_0 : decode cX6_isAllowed 0 = .ok (.iconst 0, 1) := by decide +kernel
theorem dX6_isAllowed_1 : decode cX6_isAllowed 1 = .ok (.istore_n 2, 1) := by decide +kernel
theorem dX6_isAllowed_2 : decode cX6_isAllowed 2 = .ok (.iconst 0, 1) := by decide +kernel
theorem dX6_isAllowed_3 : decode cX6_isAllowed 3 = .ok (.istore_n 3, 1) := by decide +kernel
theorem dX6_isAllowed_4 : decode cX6_isAllowed 4 = .ok (.iload_n 3, 1) := by decide +kernel
theorem dX6_isAllowed_5 : decode cX6_isAllowed 5 = .ok (.aload_n 0, 1) := by decide +kernel
theorem dX6_isAllowed_6 : decode cX6_isAllowed 6 = .ok (.getfield 7, 3) := by decide +kernel
theorem dX6_isAllowed_9 : decode cX6_isAllowed 9 = .ok (.iconst 0, 1) := by decide +kernel
theorem dX6_isAllowed_10 : decode cX6_isAllowed 10 = .ok (.iaload, 1) := by decide +kernel
theorem dX6_isAllowed_11 : decode cX6_isAllowed 11 = .ok (.if_icmp .ge 87, 3) := by decide +kernel
theorem dX6_isAllowed_14 : decode cX6_isAllowed 14 = .ok (.iload_n 1, 1) := by decide +kernel
theorem dX6_isAllowed_15 : decode cX6_isAllowed 15 = .ok (.iload_n 3, 1) := by decide +kernel
theorem dX6_isAllowed_16 : decode cX6_isAllowed 16 = .ok (.invokestatic 83, 3) := by decide +kernel
theorem dX6_isAllowed_19 : decode cX6_isAllowed 19 = .ok (.ifCond .eq 73, 3) := by decide +kernel
theorem dX6_isAllowed_22 : decode cX6_isAllowed 22 = .ok (.aload_n 0, 1) := by decide +kernel
theorem dX6_isAllowed_23 : decode cX6_isAllowed 23 = .ok (.iload_n 3, 1) := by decide +kernel
theorem dX6_isAllowed_24 : decode cX6_isAllowed 24 = .ok (.iconst 4, 1) := by decide +kernel
theorem dX6_isAllowed_25 : decode cX6_isAllowed 25 = .ok (.invokevirtual 72, 3) := by decide +kernel
theorem dX6_isAllowed_28 : decode cX6_isAllowed 28 = .ok (.istore 4, 2) := by decide +kernel
theorem dX6_isAllowed_30 : decode cX6_isAllowed 30 = .ok (.aload_n 0, 1) := by decide +kernel
theorem dX6_isAllowed_31 : decode cX6_isAllowed 31 = .ok (.getfield 7, 3) := by decide +kernel
theorem dX6_isAllowed_34 : decode cX6_isAllowed 34 = .ok (.bipush 64, 2) := by decide +kernel
theorem dX6_isAllowed_36 : decode cX6_isAllowed 36 = .ok (.iload_n 3, 1) := by decide +kernel
theorem dX6_isAllowed_37 : decode cX6_isAllowed 37 = .ok (.iadd, 1) := by decide +kernel
theorem dX6_isAllowed_38 : decode cX6_isAllowed 38 = .ok (.iaload, 1) := by decide +kernel
theorem dX6_isAllowed_39 : decode cX6_isAllowed 39 = .ok (.iload_n 1, 1) := by decide +kernel
theorem dX6_isAllowed_40 : decode cX6_isAllowed 40 = .ok (.iand, 1) := by decide +kernel
theorem dX6_isAllowed_41 : decode cX6_isAllowed 41 = .ok (.ifCond .ne 33, 3) := by decide +kernel
theorem dX6_isAllowed_44 : decode cX6_isAllowed 44 = .ok (.aload_n 0, 1) := by decide +kernel
theorem dX6_isAllowed_45 : decode cX6_isAllowed 45 = .ok (.getfield 7, 3) := by decide +kernel
theorem dX6_isAllowed_48 : decode cX6_isAllowed 48 = .ok (.bipush 76, 2) := by decide +kernel
theorem dX6_isAllowed_50 : decode cX6_isAllowed 50 = .ok (.iload_n 3, 1) := by decide +kernel
theorem dX6_isAllowed_51 : decode cX6_isAllowed 51 = .ok (.iadd, 1) := by decide +kernel
theorem dX6_isAllowed_52 : decode cX6_isAllowed 52 = .ok (.iaload, 1) := by decide +kernel
theorem dX6_isAllowed_53 : decode cX6_isAllowed 53 = .ok (.iload_n 1, 1) := by decide +kernel
theorem dX6_isAllowed_54 : decode cX6_isAllowed 54 = .ok (.iconst (-1), 1) := by decide +kernel
theorem dX6_isAllowed_55 : decode cX6_isAllowed 55 = .ok (.ixor, 1) := by decide +kernel
theorem dX6_isAllowed_56 : decode cX6_isAllowed 56 = .ok (.iand, 1) := by decide +kernel
theorem dX6_isAllowed_57 : decode cX6_isAllowed 57 = .ok (.ifCond .ne 17, 3) := by decide +kernel
theorem dX6_isAllowed_60 : decode cX6_isAllowed 60 = .ok (.iload 4, 2) := by decide +kernel
theorem dX6_isAllowed_62 : decode cX6_isAllowed 62 = .ok (.ifCond .lt 14, 3) := by decide +kernel
theorem dX6_isAllowed_65 : decode cX6_isAllowed 65 = .ok (.iload_n 2, 1) := by decide +kernel
theorem dX6_isAllowed_66 : decode cX6_isAllowed 66 = .ok (.iload 4, 2) := by decide +kernel
theorem dX6_isAllowed_68 : decode cX6_isAllowed 68 = .ok (.invokestatic 83, 3) := by decide +kernel
theorem dX6_isAllowed_71 : decode cX6_isAllowed 71 = .ok (.ifCond .eq 5, 3) := by decide +kernel
theorem dX6_isAllowed_74 : decode cX6_isAllowed 74 = .ok (.iconst 0, 1) := by decide +kernel
theorem dX6_isAllowed_75 : decode cX6_isAllowed 75 = .ok (.ireturn, 1) := by decide +kernel
theorem dX6_isAllowed_76 : decode cX6_isAllowed 76 = .ok (.iload_n 2, 1) := by decide +kernel
theorem dX6_isAllowed_77 : decode cX6_isAllowed 77 = .ok (.iload 4, 2) := by decide +kernel
theorem dX6_isAllowed_79 : decode cX6_isAllowed 79 = .ok (.ifCond .lt 10, 3) := by decide +kernel
theorem dX6_isAllowed_82 : decode cX6_isAllowed 82 = .ok (.iconst 1, 1) := by decide +kernel
theorem dX6_isAllowed_83 : decode cX6_isAllowed 83 = .ok (.iload 4, 2) := by decide +kernel
theorem dX6_isAllowed_85 : decode cX6_isAllowed 85 = .ok (.ishl, 1) := by decide +kernel
theorem dX6_isAllowed_86 : decode cX6_isAllowed 86 = .ok (.goto 4, 3) := by decide +kernel
theorem dX6_isAllowed_89 : decode cX6_isAllowed 89 = .ok (.iconst 0, 1) := by decide +kernel
theorem dX6_isAllowed_90 : decode cX6_isAllowed 90 = .ok (.ior, 1) := by decide +kernel
theorem dX6_isAllowed_91 : decode cX6_isAllowed 91 = .ok (.istore_n 2, 1) := by decide +kernel
theorem dX6_isAllowed_92 : decode cX6_isAllowed 92 = .ok (.iinc 3 1, 3) := by decide +kernel
theorem dX6_isAllowed_95 : decode cX6_isAllowed 95 = .ok (.goto (-91), 3) := by decide +kernel
theorem dX6_isAllowed_98 : decode cX6_isAllowed 98 = .ok (.iconst 1, 1) := by decide +kernel
theorem dX6_isAllowed_99 : decode cX6_isAllowed 99 = .ok (.ireturn, 1) := by decide +kernel
theorem dX6_sets_0 : decode cX6_sets 0 = .ok (.iconst 1, 1) := by decide +kernel
theorem dX6_sets_1 : decode cX6_sets 1 = .ok (.aload_n 0, 1) := by decide +kernel
theorem dX6_sets_2 : decode cX6_sets 2 = .ok (.getfield 7, 3) := by decide +kernel
theorem dX6_sets_5 : decode cX6_sets 5 = .ok (.iconst 0, 1) := by decide +kernel
theorem dX6_sets_6 : decode cX6_sets 6 = .ok (.iaload, 1) := by decide +kernel
theorem dX6_sets_7 : decode cX6_sets 7 = .ok (.ishl, 1) := by decide +kernel
theorem dX6_sets_8 : decode cX6_sets 8 = .ok (.ireturn, 1) := by decide +kernel
set_option maxRecDepth 20000 in
theorem ggX6_layTables_X6_sets : GoodIn wsX6_layTables wsX6_sets := goodIn_r _ [8, 9, 37, 38, 39, 40, 41, 42, 43, 44, 45, 46, 47, 48, 49, 50, 51, 52, 53, 54, 55, 56, 57] (by decide +kernel) (by decide +kernel)
set_option maxRecDepth 20000 in
theorem gX6_layTables_X6_sets : GoodIn wsX6_layTables (wsV RX6 132 RX6 yX6_sets wsX6_sets) := goodIn_app (goodIn_of _ (by decide +kernel)) ggX6_layTables_X6_sets
set_option maxRecDepth 20000 in
theorem ggX6_layTables_X6_isAllowed : GoodIn wsX6_layTables wsX6_isAllowed := goodIn_r _ [13, 9, 14, 15, 7, 16, 17, 18, 19, 20, 37, 38, 39, 40, 41, 42, 43, 44, 45, 46, 47, 48, 49, 50, 51, 52, 53, 54, 55, 56, 57] (by decide +kernel) (by decide +kernel)
set_option maxRecDepth 20000 in
theorem gX6_layTables_X6_isAllowed : GoodIn wsX6_layTables (wsV RX6 135 RX6 yX6_isAllowed wsX6_isAllowed) := goodIn_app (goodIn_of _ (by decide +kernel)) ggX6_layTables_X6_isAllowed
set_option maxRecDepth 20000 in
theorem ggX6_layTables_X6_protectedWeight : GoodIn wsX6_layTables wsX6_protectedWeight := goodIn_r _ [24, 25, 26, 27, 7, 28, 9, 14, 15, 16, 17, 18, 19, 20, 29, 30, 31, 32, 37, 38, 39, 40, 41, 42, 43, 44, 45, 46, 47, 48, 49, 50, 51, 52, 53, 54, 55, 56, 57] (by decide +kernel) (by decide +kernel)
set_option maxRecDepth 20000 in
theorem gX6_layTables_X6_protectedWeight : GoodIn wsX6_layTables (wsV RX6 138 RX6 yX6_protectedWeight wsX6_protectedWeight) := goodIn_app (goodIn_of _ (by decide +kernel)) ggX6_layTables_X6_protectedWeight
set_option maxRecDepth 20000 in
theorem ggX6_layTables_X6_protectedProfit : GoodIn wsX6_layTables wsX6_protectedProfit := goodIn_r _ [36, 25, 26, 27, 7, 28, 9, 14, 15, 16, 17, 18, 19, 20, 29, 30, 31, 32, 37, 38, 39, 40, 41, 42, 43, 44, 45, 46, 47, 48, 49, 50, 51, 52, 53, 54, 55, 56, 57] (by decide +kernel) (by decide +kernel)
set_option maxRecDepth 20000 in
theorem gX6_layTables_X6_protectedProfit : GoodIn wsX6_layTables (wsV RX6 141 RX6 yX6_protectedProfit wsX6_protectedProfit) := goodIn_app (goodIn_of _ (by decide +kernel)) ggX6_layTables_X6_protectedProfit
theorem dX6_layTables_0 : decode cX6_layTables 0 = .ok (.iconst 0, 1) := by decide +kernel
theorem dX6_layTables_1 : decode cX6_layTables 1 = .ok (.istore_n 3, 1) := by decide +kernel
theorem dX6_layTables_2 : decode cX6_layTables 2 = .ok (.iload_n 3, 1) := by decide +kernel
theorem dX6_layTables_3 : decode cX6_layTables 3 = .ok (.aload_n 0, 1) := by decide +kernel
theorem dX6_layTables_4 : decode cX6_layTables 4 = .ok (.invokevirtual 132, 3) := by decide +kernel
theorem dX6_layTables_7 : decode cX6_layTables 7 = .ok (.if_icmp .ge 44, 3) := by decide +kernel
theorem dX6_layTables_10 : decode cX6_layTables 10 = .ok (.aload_n 0, 1) := by decide +kernel
theorem dX6_layTables_11 : decode cX6_layTables 11 = .ok (.getfield 28, 3) := by decide +kernel
theorem dX6_layTables_14 : decode cX6_layTables 14 = .ok (.iload_n 3, 1) := by decide +kernel
theorem dX6_layTables_15 : decode cX6_layTables 15 = .ok (.aload_n 0, 1) := by decide +kernel
theorem dX6_layTables_16 : decode cX6_layTables 16 = .ok (.iload_n 3, 1) := by decide +kernel
theorem dX6_layTables_17 : decode cX6_layTables 17 = .ok (.invokevirtual 135, 3) := by decide +kernel
theorem dX6_layTables_20 : decode cX6_layTables 20 = .ok (.bastore, 1) := by decide +kernel
theorem dX6_layTables_21 : decode cX6_layTables 21 = .ok (.aload_n 0, 1) := by decide +kernel
theorem dX6_layTables_22 : decode cX6_layTables 22 = .ok (.getfield 22, 3) := by decide +kernel
theorem dX6_layTables_25 : decode cX6_layTables 25 = .ok (.iload_n 3, 1) := by decide +kernel
theorem dX6_layTables_26 : decode cX6_layTables 26 = .ok (.aload_n 0, 1) := by decide +kernel
theorem dX6_layTables_27 : decode cX6_layTables 27 = .ok (.iload_n 3, 1) := by decide +kernel
theorem dX6_layTables_28 : decode cX6_layTables 28 = .ok (.iload_n 1, 1) := by decide +kernel
theorem dX6_layTables_29 : decode cX6_layTables 29 = .ok (.invokevirtual 138, 3) := by decide +kernel
theorem dX6_layTables_32 : decode cX6_layTables 32 = .ok (.iastore, 1) := by decide +kernel
theorem dX6_layTables_33 : decode cX6_layTables 33 = .ok (.aload_n 0, 1) := by decide +kernel
theorem dX6_layTables_34 : decode cX6_layTables 34 = .ok (.getfield 25, 3) := by decide +kernel
theorem dX6_layTables_37 : decode cX6_layTables 37 = .ok (.iload_n 3, 1) := by decide +kernel
theorem dX6_layTables_38 : decode cX6_layTables 38 = .ok (.aload_n 0, 1) := by decide +kernel
theorem dX6_layTables_39 : decode cX6_layTables 39 = .ok (.iload_n 3, 1) := by decide +kernel
theorem dX6_layTables_40 : decode cX6_layTables 40 = .ok (.iload_n 2, 1) := by decide +kernel
theorem dX6_layTables_41 : decode cX6_layTables 41 = .ok (.invokevirtual 141, 3) := by decide +kernel
theorem dX6_layTables_44 : decode cX6_layTables 44 = .ok (.iastore, 1) := by decide +kernel
theorem dX6_layTables_45 : decode cX6_layTables 45 = .ok (.iinc 3 1, 3) := by decide +kernel
theorem dX6_layTables_48 : decode cX6_layTables 48 = .ok (.goto (-46), 3) := by decide +kernel
theorem dX6_layTables_51 : decode cX6_layTables 51 = .ok (.return_, 1) := by decide +kernel
set_option maxRecDepth 20000 in
theorem ggX6_layOwnTables_X6_layTables : GoodIn wsX6_layOwnTables wsX6_layTables := goodIn_r _ [6, 7, 8, 9, 10, 11, 12, 5, 13, 1, 14, 15, 16, 17, 18, 19, 20, 21, 22, 23, 24, 25, 26, 27, 28, 29, 30, 31, 32, 33, 34, 35, 36, 37, 38, 39, 40, 41, 42, 43, 44, 45, 46, 47, 48, 49, 50, 51, 52, 53, 54, 55, 56, 57, 58, 59, 60, 61] (by decide +kernel) (by decide +kernel)
set_option maxRecDepth 20000 in
theorem gX6_layOwnTables_X6_layTables : GoodIn wsX6_layOwnTables (wsV RX6 144 RX6 yX6_layTables wsX6_layTables) := goodIn_app (goodIn_of _ (by decide +kernel)) ggX6_layOwnTables_X6_layTables
theorem dX6_layOwnTables_0 : decode cX6_layOwnTables 0 = .ok (.aload_n 0, 1) := by decide +kernel
theorem dX6_layOwnTables_1 : decode cX6_layOwnTables 1 = .ok (.aload_n 0, 1) := by decide +kernel
theorem dX6_layOwnTables_2 : decode cX6_layOwnTables 2 = .ok (.getfield 7, 3) := by decide +kernel
theorem dX6_layOwnTables_5 : decode cX6_layOwnTables 5 = .ok (.iconst 2, 1) := by decide +kernel
theorem dX6_layOwnTables_6 : decode cX6_layOwnTables 6 = .ok (.iaload, 1) := by decide +kernel
theorem dX6_layOwnTables_7 : decode cX6_layOwnTables 7 = .ok (.aload_n 0, 1) := by decide +kernel
theorem dX6_layOwnTables_8 : decode cX6_layOwnTables 8 = .ok (.getfield 7, 3) := by decide +kernel
theorem dX6_layOwnTables_11 : decode cX6_layOwnTables 11 = .ok (.iconst 3, 1) := by decide +kernel
theorem dX6_layOwnTables_12 : decode cX6_layOwnTables 12 = .ok (.iaload, 1) := by decide +kernel
theorem dX6_layOwnTables_13 : decode cX6_layOwnTables 13 = .ok (.invokevirtual 144, 3) := by decide +kernel
theorem dX6_layOwnTables_16 : decode cX6_layOwnTables 16 = .ok (.return_, 1) := by decide +kernel
set_option maxRecDepth 20000 in
theorem ggX6_mostBudget_X6_protectedWeight : GoodIn wsX6_mostBudget wsX6_protectedWeight := goodIn_r _ [6, 7, 8, 9, 5, 10, 1, 11, 12, 13, 14, 15, 16, 17, 18, 19, 20, 21, 22, 23, 24, 25, 26, 27, 28, 29, 30, 31, 32, 33, 34, 35, 36, 37, 38, 39, 40, 41, 42] (by decide +kernel) (by decide +kernel)
set_option maxRecDepth 20000 in
theorem gX6_mostBudget_X6_protectedWeight : GoodIn wsX6_mostBudget (wsV RX6 138 RX6 yX6_protectedWeight wsX6_protectedWeight) := goodIn_app (goodIn_of _ (by decide +kernel)) ggX6_mostBudget_X6_protectedWeight
theorem dX6_mostBudget_0 : decode cX6_mostBudget 0 = .ok (.bipush (-6), 2) := by decide +kernel
theorem dX6_mostBudget_2 : decode cX6_mostBudget 2 = .ok (.istore_n 2, 1) := by decide +kernel
theorem dX6_mostBudget_3 : decode cX6_mostBudget 3 = .ok (.iconst 0, 1) := by decide +kernel
theorem dX6_mostBudget_4 : decode cX6_mostBudget 4 = .ok (.istore_n 3, 1) := by decide +kernel
theorem dX6_mostBudget_5 : decode cX6_mostBudget 5 = .ok (.iload_n 3, 1) := by decide +kernel
theorem dX6_mostBudget_6 : decode cX6_mostBudget 6 = .ok (.bipush 12, 2) := by decide +kernel
theorem dX6_mostBudget_8 : decode cX6_mostBudget 8 = .ok (.if_icmp .gt 30, 3) := by decide +kernel
theorem dX6_mostBudget_11 : decode cX6_mostBudget 11 = .ok (.aload_n 0, 1) := by decide +kernel
theorem dX6_mostBudget_12 : decode cX6_mostBudget 12 = .ok (.iload_n 1, 1) := by decide +kernel
theorem dX6_mostBudget_13 : decode cX6_mostBudget 13 = .ok (.iload_n 3, 1) := by decide +kernel
theorem dX6_mostBudget_14 : decode cX6_mostBudget 14 = .ok (.invokevirtual 138, 3) := by decide +kernel
theorem dX6_mostBudget_17 : decode cX6_mostBudget 17 = .ok (.aload_n 0, 1) := by decide +kernel
theorem dX6_mostBudget_18 : decode cX6_mostBudget 18 = .ok (.getfield 7, 3) := by decide +kernel
theorem dX6_mostBudget_21 : decode cX6_mostBudget 21 = .ok (.iconst 1, 1) := by decide +kernel
theorem dX6_mostBudget_22 : decode cX6_mostBudget 22 = .ok (.iaload, 1) := by decide +kernel
theorem dX6_mostBudget_23 : decode cX6_mostBudget 23 = .ok (.if_icmp .gt 7, 3) := by decide +kernel
theorem dX6_mostBudget_26 : decode cX6_mostBudget 26 = .ok (.iload_n 3, 1) := by decide +kernel
theorem dX6_mostBudget_27 : decode cX6_mostBudget 27 = .ok (.goto 4, 3) := by decide +kernel
theorem dX6_mostBudget_30 : decode cX6_mostBudget 30 = .ok (.iload_n 2, 1) := by decide +kernel
theorem dX6_mostBudget_31 : decode cX6_mostBudget 31 = .ok (.istore_n 2, 1) := by decide +kernel
theorem dX6_mostBudget_32 : decode cX6_mostBudget 32 = .ok (.iinc 3 1, 3) := by decide +kernel
theorem dX6_mostBudget_35 : decode cX6_mostBudget 35 = .ok (.goto (-30), 3) := by decide +kernel
theorem dX6_mostBudget_38 : decode cX6_mostBudget 38 = .ok (.iload_n 2, 1) := by decide +kernel
theorem dX6_mostBudget_39 : decode cX6_mostBudget 39 = .ok (.ireturn, 1) := by decide +kernel
set_option maxRecDepth 20000 in
theorem ggX6_choice_X6_isChoice : GoodIn wsX6_choice wsX6_isChoice := goodIn_r _ [7, 1, 8, 9, 6, 10, 42, 43, 44, 45, 46, 47, 48, 49, 50, 51, 52, 53, 54, 55, 56, 57, 58, 59, 60, 61, 62] (by decide +kernel) (by decide +kernel)
set_option maxRecDepth 20000 in
theorem gX6_choice_X6_isChoice : GoodIn wsX6_choice (wsV RX6 148 RX6 yX6_isChoice wsX6_isChoice) := goodIn_app (goodIn_of _ (by decide +kernel)) ggX6_choice_X6_isChoice
set_option maxRecDepth 20000 in
theorem ggX6_choice_X6_sum : GoodIn wsX6_choice wsX6_sum := goodIn_r _ [14, 1, 15, 16, 6, 17, 18, 19, 20, 21, 42, 43, 44, 45, 46, 47, 48, 49, 50, 51, 52, 53, 54, 55, 56, 57, 58, 59, 60, 61, 62] (by decide +kernel) (by decide +kernel)
set_option maxRecDepth 20000 in
theorem gX6_choice_X6_sum : GoodIn wsX6_choice (wsV RX6 125 RX6 yX6_sum wsX6_sum) := goodIn_app (goodIn_of _ (by decide +kernel)) ggX6_choice_X6_sum
set_option maxRecDepth 20000 in
theorem ggX6_choice_X6_protectedWeight : GoodIn wsX6_choice wsX6_protectedWeight := goodIn_r _ [25, 11, 12, 13, 6, 14, 1, 15, 16, 17, 18, 19, 20, 21, 26, 27, 28, 29, 42, 43, 44, 45, 46, 47, 48, 49, 50, 51, 52, 53, 54, 55, 56, 57, 58, 59, 60, 61, 62] (by decide +kernel) (by decide +kernel)
set_option maxRecDepth 20000 in
theorem gX6_choice_X6_protectedWeight : GoodIn wsX6_choice (wsV RX6 138 RX6 yX6_protectedWeight wsX6_protectedWeight) := goodIn_app (goodIn_of _ (by decide +kernel)) ggX6_choice_X6_protectedWeight
set_option maxRecDepth 20000 in
theorem ggX6_choice_X6_protectedProfit : GoodIn wsX6_choice wsX6_protectedProfit := goodIn_r _ [33, 11, 12, 13, 6, 14, 1, 15, 16, 17, 18, 19, 20, 21, 26, 27, 28, 29, 42, 43, 44, 45, 46, 47, 48, 49, 50, 51, 52, 53, 54, 55, 56, 57, 58, 59, 60, 61, 62] (by decide +kernel) (by decide +kernel)
set_option maxRecDepth 20000 in
theorem gX6_choice_X6_protectedProfit : GoodIn wsX6_choice (wsV RX6 141 RX6 yX6_protectedProfit wsX6_protectedProfit) := goodIn_app (goodIn_of _ (by decide +kernel)) ggX6_choice_X6_protectedProfit
set_option maxRecDepth 20000 in
theorem ggX6_choice_X6_isAllowed : GoodIn wsX6_choice wsX6_isAllowed := goodIn_r _ [37, 1, 15, 16, 6, 17, 18, 19, 20, 21, 42, 43, 44, 45, 46, 47, 48, 49, 50, 51, 52, 53, 54, 55, 56, 57, 58, 59, 60, 61, 62] (by decide +kernel) (by decide +kernel)
set_option maxRecDepth 20000 in
theorem gX6_choice_X6_isAllowed : GoodIn wsX6_choice (wsV RX6 135 RX6 yX6_isAllowed wsX6_isAllowed) := goodIn_app (goodIn_of _ (by decide +kernel)) ggX6_choice_X6_isAllowed
set_option maxRecDepth 20000 in
theorem ggX6_choice_X6_worst : GoodIn wsX6_choice wsX6_worst := goodIn_r _ [29, 1, 15, 16, 6, 17, 18, 19, 20, 21, 42, 43, 44, 45, 46, 47, 48, 49, 50, 51, 52, 53, 54, 55, 56, 57, 58, 59, 60, 61, 62] (by decide +kernel) (by decide +kernel)
set_option maxRecDepth 20000 in
theorem gX6_choice_X6_worst : GoodIn wsX6_choice (wsV RX6 128 RX6 yX6_worst wsX6_worst) := goodIn_app (goodIn_of _ (by decide +kernel)) ggX6_choice_X6_worst
set_option maxRecDepth 20000 in
theorem ggX6_choice_X6_mostBudget : GoodIn wsX6_choice wsX6_mostBudget := goodIn_r _ [41, 1, 22, 23, 24, 6, 25, 11, 12, 13, 14, 15, 16, 17, 18, 19, 20, 21, 26, 27, 28, 29, 42, 43, 44, 45, 46, 47, 48, 49, 50, 51, 52, 53, 54, 55, 56, 57, 58, 59, 60, 61, 62] (by decide +kernel) (by decide +kernel)
set_option maxRecDepth 20000 in
theorem gX6_choice_X6_mostBudget : GoodIn wsX6_choice (wsV RX6 152 RX6 yX6_mostBudget wsX6_mostBudget) := goodIn_app (goodIn_of _ (by decide +kernel)) ggX6_choice_X6_mostBudget
theorem dX6_choice_0 : decode cX6_choice 0 = .ok (.aload_n 0, 1) := by decide +kernel
theorem dX6_choice_1 : decode cX6_choice 1 = .ok (.iload_n 1, 1) := by decide +kernel
theorem dX6_choice_2 : decode cX6_choice 2 = .ok (.invokevirtual 148, 3) := by decide +kernel
theorem dX6_choice_5 : decode cX6_choice 5 = .ok (.ifCond .ne 5, 3) := by decide +kernel
theorem dX6_choice_8 : decode cX6_choice 8 = .ok (.iconst (-1), 1) := by decide +kernel
theorem dX6_choice_9 : decode cX6_choice 9 = .ok (.ireturn, 1) := by decide +kernel
theorem dX6_choice_10 : decode cX6_choice 10 = .ok (.aload_n 0, 1) := by decide +kernel
theorem dX6_choice_11 : decode cX6_choice 11 = .ok (.getfield 7, 3) := by decide +kernel
theorem dX6_choice_14 : decode cX6_choice 14 = .ok (.iconst 2, 1) := by decide +kernel
theorem dX6_choice_15 : decode cX6_choice 15 = .ok (.iaload, 1) := by decide +kernel
theorem dX6_choice_16 : decode cX6_choice 16 = .ok (.istore_n 3, 1) := by decide +kernel
theorem dX6_choice_17 : decode cX6_choice 17 = .ok (.iload_n 2, 1) := by decide +kernel
theorem dX6_choice_18 : decode cX6_choice 18 = .ok (.tableswitch 151 0 8 #[50, 57, 64, 74, 89, 103, 124, 132, 145], 50) := by decide +kernel
theorem dX6_choice_68 : decode cX6_choice 68 = .ok (.aload_n 0, 1) := by decide +kernel
theorem dX6_choice_69 : decode cX6_choice 69 = .ok (.iload_n 1, 1) := by decide +kernel
theorem dX6_choice_70 : decode cX6_choice 70 = .ok (.iconst 1, 1) := by decide +kernel
theorem dX6_choice_71 : decode cX6_choice 71 = .ok (.invokevirtual 125, 3) := by decide +kernel
theorem dX6_choice_74 : decode cX6_choice 74 = .ok (.ireturn, 1) := by decide +kernel
theorem dX6_choice_75 : decode cX6_choice 75 = .ok (.aload_n 0, 1) := by decide +kernel
theorem dX6_choice_76 : decode cX6_choice 76 = .ok (.iload_n 1, 1) := by decide +kernel
theorem dX6_choice_77 : decode cX6_choice 77 = .ok (.iload_n 3, 1) := by decide +kernel
theorem dX6_choice_78 : decode cX6_choice 78 = .ok (.invokevirtual 138, 3) := by decide +kernel
theorem dX6_choice_81 : decode cX6_choice 81 = .ok (.ireturn, 1) := by decide +kernel
theorem dX6_choice_82 : decode cX6_choice 82 = .ok (.aload_n 0, 1) := by decide +kernel
theorem dX6_choice_83 : decode cX6_choice 83 = .ok (.iload_n 1, 1) := by decide +kernel
theorem dX6_choice_84 : decode cX6_choice 84 = .ok (.iconst 0, 1) := by decide +kernel
theorem dX6_choice_85 : decode cX6_choice 85 = .ok (.invokevirtual 125, 3) := by decide +kernel
theorem dX6_choice_88 : decode cX6_choice 88 = .ok (.ldc 151, 2) := by decide +kernel
theorem dX6_choice_90 : decode cX6_choice 90 = .ok (.iadd, 1) := by decide +kernel
theorem dX6_choice_91 : decode cX6_choice 91 = .ok (.ireturn, 1) := by decide +kernel
theorem dX6_choice_92 : decode cX6_choice 92 = .ok (.aload_n 0, 1) := by decide +kernel
theorem dX6_choice_93 : decode cX6_choice 93 = .ok (.iload_n 1, 1) := by decide +kernel
theorem dX6_choice_94 : decode cX6_choice 94 = .ok (.aload_n 0, 1) := by decide +kernel
theorem dX6_choice_95 : decode cX6_choice 95 = .ok (.getfield 7, 3) := by decide +kernel
theorem dX6_choice_98 : decode cX6_choice 98 = .ok (.iconst 3, 1) := by decide +kernel
theorem dX6_choice_99 : decode cX6_choice 99 = .ok (.iaload, 1) := by decide +kernel
theorem dX6_choice_100 : decode cX6_choice 100 = .ok (.invokevirtual 141, 3) := by decide +kernel
theorem dX6_choice_103 : decode cX6_choice 103 = .ok (.ldc 151, 2) := by decide +kernel
theorem dX6_choice_105 : decode cX6_choice 105 = .ok (.iadd, 1) := by decide +kernel
theorem dX6_choice_106 : decode cX6_choice 106 = .ok (.ireturn, 1) := by decide +kernel
theorem dX6_choice_107 : decode cX6_choice 107 = .ok (.aload_n 0, 1) := by decide +kernel
theorem dX6_choice_108 : decode cX6_choice 108 = .ok (.iload_n 1, 1) := by decide +kernel
theorem dX6_choice_109 : decode cX6_choice 109 = .ok (.invokevirtual 135, 3) := by decide +kernel
theorem dX6_choice_112 : decode cX6_choice 112 = .ok (.ifCond .eq 7, 3) := by decide +kernel
theorem dX6_choice_115 : decode cX6_choice 115 = .ok (.iconst 1, 1) := by decide +kernel
theorem dX6_choice_116 : decode cX6_choice 116 = .ok (.goto 4, 3) := by decide +kernel
theorem dX6_choice_119 : decode cX6_choice 119 = .ok (.iconst 0, 1) := by decide +kernel
theorem dX6_choice_120 : decode cX6_choice 120 = .ok (.ireturn, 1) := by decide +kernel
theorem dX6_choice_121 : decode cX6_choice 121 = .ok (.aload_n 0, 1) := by decide +kernel
theorem dX6_choice_122 : decode cX6_choice 122 = .ok (.iload_n 1, 1) := by decide +kernel
theorem dX6_choice_123 : decode cX6_choice 123 = .ok (.iload_n 3, 1) := by decide +kernel
theorem dX6_choice_124 : decode cX6_choice 124 = .ok (.invokevirtual 138, 3) := by decide +kernel
theorem dX6_choice_127 : decode cX6_choice 127 = .ok (.aload_n 0, 1) := by decide +kernel
theorem dX6_choice_128 : decode cX6_choice 128 = .ok (.getfield 7, 3) := by decide +kernel
theorem dX6_choice_131 : decode cX6_choice 131 = .ok (.iconst 1, 1) := by decide +kernel
theorem dX6_choice_132 : decode cX6_choice 132 = .ok (.iaload, 1) := by decide +kernel
theorem dX6_choice_133 : decode cX6_choice 133 = .ok (.if_icmp .gt 7, 3) := by decide +kernel
theorem dX6_choice_136 : decode cX6_choice 136 = .ok (.iconst 1, 1) := by decide +kernel
theorem dX6_choice_137 : decode cX6_choice 137 = .ok (.goto 4, 3) := by decide +kernel
theorem dX6_choice_140 : decode cX6_choice 140 = .ok (.iconst 0, 1) := by decide +kernel
theorem dX6_choice_141 : decode cX6_choice 141 = .ok (.ireturn, 1) := by decide +kernel
theorem dX6_choice_142 : decode cX6_choice 142 = .ok (.aload_n 0, 1) := by decide +kernel
theorem dX6_choice_143 : decode cX6_choice 143 = .ok (.iload_n 1, 1) := by decide +kernel
theorem dX6_choice_144 : decode cX6_choice 144 = .ok (.iconst 2, 1) := by decide +kernel
theorem dX6_choice_145 : decode cX6_choice 145 = .ok (.iload_n 3, 1) := by decide +kernel
theorem dX6_choice_146 : decode cX6_choice 146 = .ok (.invokevirtual 128, 3) := by decide +kernel
theorem dX6_choice_149 : decode cX6_choice 149 = .ok (.ireturn, 1) := by decide +kernel
theorem dX6_choice_150 : decode cX6_choice 150 = .ok (.aload_n 0, 1) := by decide +kernel
theorem dX6_choice_151 : decode cX6_choice 151 = .ok (.iload_n 1, 1) := by decide +kernel
theorem dX6_choice_152 : decode cX6_choice 152 = .ok (.iconst 3, 1) := by decide +kernel
theorem dX6_choice_153 : decode cX6_choice 153 = .ok (.aload_n 0, 1) := by decide +kernel
theorem dX6_choice_154 : decode cX6_choice 154 = .ok (.getfield 7, 3) := by decide +kernel
theorem dX6_choice_157 : decode cX6_choice 157 = .ok (.iconst 3, 1) := by decide +kernel
theorem dX6_choice_158 : decode cX6_choice 158 = .ok (.iaload, 1) := by decide +kernel
theorem dX6_choice_159 : decode cX6_choice 159 = .ok (.invokevirtual 128, 3) := by decide +kernel
theorem dX6_choice_162 : decode cX6_choice 162 = .ok (.ireturn, 1) := by decide +kernel
theorem dX6_choice_163 : decode cX6_choice 163 = .ok (.aload_n 0, 1) := by decide +kernel
theorem dX6_choice_164 : decode cX6_choice 164 = .ok (.iload_n 1, 1) := by decide +kernel
theorem dX6_choice_165 : decode cX6_choice 165 = .ok (.invokevirtual 152, 3) := by decide +kernel
theorem dX6_choice_168 : decode cX6_choice 168 = .ok (.ireturn, 1) := by decide +kernel
theorem dX6_choice_169 : decode cX6_choice 169 = .ok (.bipush (-2), 2) := by decide +kernel
theorem dX6_choice_171 : decode cX6_choice 171 = .ok (.ireturn, 1) := by decide +kernel
set_option maxRecDepth 20000 in
theorem ggX6_weightIn_X6_isChoice : GoodIn wsX6_weightIn wsX6_isChoice := goodIn_r _ [6, 1, 7, 8, 5, 9, 24, 25, 26, 27, 28, 29, 30, 31, 32, 33, 34, 35, 36, 37, 38, 39, 40, 41, 42, 43, 44] (by decide +kernel) (by decide +kernel)
set_option maxRecDepth 20000 in
theorem gX6_weightIn_X6_isChoice : GoodIn wsX6_weightIn (wsV RX6 148 RX6 yX6_isChoice wsX6_isChoice) := goodIn_app (goodIn_of _ (by decide +kernel)) ggX6_weightIn_X6_isChoice
set_option maxRecDepth 20000 in
theorem ggX6_weightIn_X6_sizeOf : GoodIn wsX6_weightIn wsX6_sizeOf := goodIn_r _ [12] (by decide +kernel) (by decide +kernel)
set_option maxRecDepth 20000 in
theorem gX6_weightIn_X6_sizeOf : GoodIn wsX6_weightIn (va_wsS RX6 155 yX6_sizeOf wsX6_sizeOf) := goodIn_app (goodIn_of _ (by decide +kernel)) ggX6_weightIn_X6_sizeOf
set_option maxRecDepth 20000 in
theorem ggX6_weightIn_X6_sum : GoodIn wsX6_weightIn wsX6_sum := goodIn_r _ [16, 1, 17, 18, 5, 19, 20, 21, 22, 23, 24, 25, 26, 27, 28, 29, 30, 31, 32, 33, 34, 35, 36, 37, 38, 39, 40, 41, 42, 43, 44] (by decide +kernel) (by decide +kernel)
set_option maxRecDepth 20000 in
theorem gX6_weightIn_X6_sum : GoodIn wsX6_weightIn (wsV RX6 125 RX6 yX6_sum wsX6_sum) := goodIn_app (goodIn_of _ (by decide +kernel)) ggX6_weightIn_X6_sum
theorem dX6_weightIn_0 : decode cX6_weightIn 0 = .ok (.aload_n 0, 1) := by decide +kernel
theorem dX6_weightIn_1 : decode cX6_weightIn 1 = .ok (.iload_n 1, 1) := by decide +kernel
theorem dX6_weightIn_2 : decode cX6_weightIn 2 = .ok (.invokevirtual 148, 3) := by decide +kernel
theorem dX6_weightIn_5 : decode cX6_weightIn 5 = .ok (.ifCond .eq 11, 3) := by decide +kernel
theorem dX6_weightIn_8 : decode cX6_weightIn 8 = .ok (.aload_n 0, 1) := by decide +kernel
theorem dX6_weightIn_9 : decode cX6_weightIn 9 = .ok (.iload_n 2, 1) := by decide +kernel
theorem dX6_weightIn_10 : decode cX6_weightIn 10 = .ok (.invokevirtual 148, 3) := by decide +kernel
theorem dX6_weightIn_13 : decode cX6_weightIn 13 = .ok (.ifCond .ne 5, 3) := by decide +kernel
theorem dX6_weightIn_16 : decode cX6_weightIn 16 = .ok (.iconst (-1), 1) := by decide +kernel
theorem dX6_weightIn_17 : decode cX6_weightIn 17 = .ok (.ireturn, 1) := by decide +kernel
theorem dX6_weightIn_18 : decode cX6_weightIn 18 = .ok (.iload_n 2, 1) := by decide +kernel
theorem dX6_weightIn_19 : decode cX6_weightIn 19 = .ok (.invokestatic 155, 3) := by decide +kernel
theorem dX6_weightIn_22 : decode cX6_weightIn 22 = .ok (.aload_n 0, 1) := by decide +kernel
theorem dX6_weightIn_23 : decode cX6_weightIn 23 = .ok (.getfield 7, 3) := by decide +kernel
theorem dX6_weightIn_26 : decode cX6_weightIn 26 = .ok (.iconst 2, 1) := by decide +kernel
theorem dX6_weightIn_27 : decode cX6_weightIn 27 = .ok (.iaload, 1) := by decide +kernel
theorem dX6_weightIn_28 : decode cX6_weightIn 28 = .ok (.if_icmp .le 6, 3) := by decide +kernel
theorem dX6_weightIn_31 : decode cX6_weightIn 31 = .ok (.bipush (-5), 2) := by decide +kernel
theorem dX6_weightIn_33 : decode cX6_weightIn 33 = .ok (.ireturn, 1) := by decide +kernel
theorem dX6_weightIn_34 : decode cX6_weightIn 34 = .ok (.aload_n 0, 1) := by decide +kernel
theorem dX6_weightIn_35 : decode cX6_weightIn 35 = .ok (.iload_n 1, 1) := by decide +kernel
theorem dX6_weightIn_36 : decode cX6_weightIn 36 = .ok (.iconst 1, 1) := by decide +kernel
theorem dX6_weightIn_37 : decode cX6_weightIn 37 = .ok (.invokevirtual 125, 3) := by decide +kernel
theorem dX6_weightIn_40 : decode cX6_weightIn 40 = .ok (.aload_n 0, 1) := by decide +kernel
theorem dX6_weightIn_41 : decode cX6_weightIn 41 = .ok (.iload_n 1, 1) := by decide +kernel
theorem dX6_weightIn_42 : decode cX6_weightIn 42 = .ok (.iload_n 2, 1) := by decide +kernel
theorem dX6_weightIn_43 : decode cX6_weightIn 43 = .ok (.iand, 1) := by decide +kernel
theorem dX6_weightIn_44 : decode cX6_weightIn 44 = .ok (.iconst 2, 1) := by decide +kernel
theorem dX6_weightIn_45 : decode cX6_weightIn 45 = .ok (.invokevirtual 125, 3) := by decide +kernel
theorem dX6_weightIn_48 : decode cX6_weightIn 48 = .ok (.iadd, 1) := by decide +kernel
theorem dX6_weightIn_49 : decode cX6_weightIn 49 = .ok (.ireturn, 1) := by decide +kernel
set_option maxRecDepth 20000 in
theorem ggX6_bestBy_X6_sets : GoodIn wsX6_bestBy wsX6_sets := goodIn_r _ [8, 9, 10, 11, 12, 13, 14, 15, 16, 17, 18, 19, 20, 21, 22, 23, 24, 25, 26, 27, 28, 29, 30] (by decide +kernel) (by decide +kernel)
set_option maxRecDepth 20000 in
theorem gX6_bestBy_X6_sets : GoodIn wsX6_bestBy (wsV RX6 132 RX6 yX6_sets wsX6_sets) := goodIn_app (goodIn_of _ (by decide +kernel)) ggX6_bestBy_X6_sets
theorem dX6_bestBy_0 : decode cX6_bestBy 0 = .ok (.iconst 0, 1) := by decide +kernel
theorem dX6_bestBy_1 : decode cX6_bestBy 1 = .ok (.istore_n 2, 1) := by decide +kernel
theorem dX6_bestBy_2 : decode cX6_bestBy 2 = .ok (.iconst 0, 1) := by decide +kernel
theorem dX6_bestBy_3 : decode cX6_bestBy 3 = .ok (.istore_n 3, 1) := by decide +kernel
theorem dX6_bestBy_4 : decode cX6_bestBy 4 = .ok (.iload_n 3, 1) := by decide +kernel
theorem dX6_bestBy_5 : decode cX6_bestBy 5 = .ok (.aload_n 0, 1) := by decide +kernel
theorem dX6_bestBy_6 : decode cX6_bestBy 6 = .ok (.invokevirtual 132, 3) := by decide +kernel
theorem dX6_bestBy_9 : decode cX6_bestBy 9 = .ok (.if_icmp .ge 91, 3) := by decide +kernel
theorem dX6_bestBy_12 : decode cX6_bestBy 12 = .ok (.aload_n 0, 1) := by decide +kernel
theorem dX6_bestBy_13 : decode cX6_bestBy 13 = .ok (.getfield 28, 3) := by decide +kernel
theorem dX6_bestBy_16 : decode cX6_bestBy 16 = .ok (.iload_n 3, 1) := by decide +kernel
theorem dX6_bestBy_17 : decode cX6_bestBy 17 = .ok (.baload, 1) := by decide +kernel
theorem dX6_bestBy_18 : decode cX6_bestBy 18 = .ok (.ifCond .eq 76, 3) := by decide +kernel
theorem dX6_bestBy_21 : decode cX6_bestBy 21 = .ok (.aload_n 0, 1) := by decide +kernel
theorem dX6_bestBy_22 : decode cX6_bestBy 22 = .ok (.getfield 22, 3) := by decide +kernel
theorem dX6_bestBy_25 : decode cX6_bestBy 25 = .ok (.iload_n 3, 1) := by decide +kernel
theorem dX6_bestBy_26 : decode cX6_bestBy 26 = .ok (.iaload, 1) := by decide +kernel
theorem dX6_bestBy_27 : decode cX6_bestBy 27 = .ok (.iload_n 1, 1) := by decide +kernel
theorem dX6_bestBy_28 : decode cX6_bestBy 28 = .ok (.if_icmp .gt 66, 3) := by decide +kernel
theorem dX6_bestBy_31 : decode cX6_bestBy 31 = .ok (.aload_n 0, 1) := by decide +kernel
theorem dX6_bestBy_32 : decode cX6_bestBy 32 = .ok (.getfield 25, 3) := by decide +kernel
theorem dX6_bestBy_35 : decode cX6_bestBy 35 = .ok (.iload_n 3, 1) := by decide +kernel
theorem dX6_bestBy_36 : decode cX6_bestBy 36 = .ok (.iaload, 1) := by decide +kernel
theorem dX6_bestBy_37 : decode cX6_bestBy 37 = .ok (.aload_n 0, 1) := by decide +kernel
theorem dX6_bestBy_38 : decode cX6_bestBy 38 = .ok (.getfield 25, 3) := by decide +kernel
theorem dX6_bestBy_41 : decode cX6_bestBy 41 = .ok (.iload_n 2, 1) := by decide +kernel
theorem dX6_bestBy_42 : decode cX6_bestBy 42 = .ok (.iaload, 1) := by decide +kernel
theorem dX6_bestBy_43 : decode cX6_bestBy 43 = .ok (.if_icmp .gt 33, 3) := by decide +kernel
theorem dX6_bestBy_46 : decode cX6_bestBy 46 = .ok (.aload_n 0, 1) := by decide +kernel
theorem dX6_bestBy_47 : decode cX6_bestBy 47 = .ok (.getfield 25, 3) := by decide +kernel
theorem dX6_bestBy_50 : decode cX6_bestBy 50 = .ok (.iload_n 3, 1) := by decide +kernel
theorem dX6_bestBy_51 : decode cX6_bestBy 51 = .ok (.iaload, 1) := by decide +kernel
theorem dX6_bestBy_52 : decode cX6_bestBy 52 = .ok (.aload_n 0, 1) := by decide +kernel
theorem dX6_bestBy_53 : decode cX6_bestBy 53 = .ok (.getfield 25, 3) := by decide +kernel
theorem dX6_bestBy_56 : decode cX6_bestBy 56 = .ok (.iload_n 2, 1) := by decide +kernel
theorem dX6_bestBy_57 : decode cX6_bestBy 57 = .ok (.iaload, 1) := by decide +kernel
theorem dX6_bestBy_58 : decode cX6_bestBy 58 = .ok (.if_icmp .ne 22, 3) := by decide +kernel
theorem dX6_bestBy_61 : decode cX6_bestBy 61 = .ok (.aload_n 0, 1) := by decide +kernel
theorem dX6_bestBy_62 : decode cX6_bestBy 62 = .ok (.getfield 22, 3) := by decide +kernel
theorem dX6_bestBy_65 : decode cX6_bestBy 65 = .ok (.iload_n 3, 1) := by decide +kernel
theorem dX6_bestBy_66 : decode cX6_bestBy 66 = .ok (.iaload, 1) := by decide +kernel
theorem dX6_bestBy_67 : decode cX6_bestBy 67 = .ok (.aload_n 0, 1) := by decide +kernel
theorem dX6_bestBy_68 : decode cX6_bestBy 68 = .ok (.getfield 22, 3) := by decide +kernel
theorem dX6_bestBy_71 : decode cX6_bestBy 71 = .ok (.iload_n 2, 1) := by decide +kernel
theorem dX6_bestBy_72 : decode cX6_bestBy 72 = .ok (.iaload, 1) := by decide +kernel
theorem dX6_bestBy_73 : decode cX6_bestBy 73 = .ok (.if_icmp .ge 7, 3) := by decide +kernel
theorem dX6_bestBy_76 : decode cX6_bestBy 76 = .ok (.iconst 1, 1) := by decide +kernel
theorem dX6_bestBy_77 : decode cX6_bestBy 77 = .ok (.goto 4, 3) := by decide +kernel
theorem dX6_bestBy_80 : decode cX6_bestBy 80 = .ok (.iconst 0, 1) := by decide +kernel
theorem dX6_bestBy_81 : decode cX6_bestBy 81 = .ok (.istore 4, 2) := by decide +kernel
theorem dX6_bestBy_83 : decode cX6_bestBy 83 = .ok (.iload 4, 2) := by decide +kernel
theorem dX6_bestBy_85 : decode cX6_bestBy 85 = .ok (.ifCond .eq 7, 3) := by decide +kernel
theorem dX6_bestBy_88 : decode cX6_bestBy 88 = .ok (.iload_n 3, 1) := by decide +kernel
theorem dX6_bestBy_89 : decode cX6_bestBy 89 = .ok (.goto 4, 3) := by decide +kernel
theorem dX6_bestBy_92 : decode cX6_bestBy 92 = .ok (.iload_n 2, 1) := by decide +kernel
theorem dX6_bestBy_93 : decode cX6_bestBy 93 = .ok (.istore_n 2, 1) := by decide +kernel
