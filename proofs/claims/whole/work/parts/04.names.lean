theorem dX5_init_0 : decode cX5_init 0 = .ok (.aload_n 0, 1) := by decide +kernel
theorem dX5_init_1 : decode cX5_init 1 = .ok (.invokespecial 1, 3) := by decide +kernel
theorem dX5_init_4 : decode cX5_init 4 = .ok (.aload_n 0, 1) := by decide +kernel
theorem dX5_init_5 : decode cX5_init 5 = .ok (.new 7, 3) := by decide +kernel
theorem dX5_init_8 : decode cX5_init 8 = .ok (.dup, 1) := by decide +kernel
theorem dX5_init_9 : decode cX5_init 9 = .ok (.invokespecial 9, 3) := by decide +kernel
theorem dX5_init_12 : decode cX5_init 12 = .ok (.putfield 10, 3) := by decide +kernel
theorem dX5_init_15 : decode cX5_init 15 = .ok (.aload_n 0, 1) := by decide +kernel
theorem dX5_init_16 : decode cX5_init 16 = .ok (.bipush 12, 2) := by decide +kernel
theorem dX5_init_18 : decode cX5_init 18 = .ok (.anewarray 7, 3) := by decide +kernel
theorem dX5_init_21 : decode cX5_init 21 = .ok (.putfield 16, 3) := by decide +kernel
theorem dX5_init_24 : decode cX5_init 24 = .ok (.iconst 0, 1) := by decide +kernel
theorem dX5_init_25 : decode cX5_init 25 = .ok (.istore_n 1, 1) := by decide +kernel
theorem dX5_init_26 : decode cX5_init 26 = .ok (.iload_n 1, 1) := by decide +kernel
theorem dX5_init_27 : decode cX5_init 27 = .ok (.bipush 12, 2) := by decide +kernel
theorem dX5_init_29 : decode cX5_init 29 = .ok (.if_icmp .ge 22, 3) := by decide +kernel
theorem dX5_init_32 : decode cX5_init 32 = .ok (.aload_n 0, 1) := by decide +kernel
theorem dX5_init_33 : decode cX5_init 33 = .ok (.getfield 16, 3) := by decide +kernel
theorem dX5_init_36 : decode cX5_init 36 = .ok (.iload_n 1, 1) := by decide +kernel
theorem dX5_init_37 : decode cX5_init 37 = .ok (.new 7, 3) := by decide +kernel
theorem dX5_init_40 : decode cX5_init 40 = .ok (.dup, 1) := by decide +kernel
theorem dX5_init_41 : decode cX5_init 41 = .ok (.invokespecial 9, 3) := by decide +kernel
theorem dX5_init_44 : decode cX5_init 44 = .ok (.aastore, 1) := by decide +kernel
theorem dX5_init_45 : decode cX5_init 45 = .ok (.iinc 1 1, 3) := by decide +kernel
theorem dX5_init_48 : decode cX5_init 48 = .ok (.goto (-22), 3) := by decide +kernel
theorem dX5_init_51 : decode cX5_init 51 = .ok (.aload_n 0, 1) := by decide +kernel
theorem dX5_init_52 : decode cX5_init 52 = .ok (.iconst 0, 1) := by decide +kernel
theorem dX5_init_53 : decode cX5_init 53 = .ok (.putfield 20, 3) := by decide +kernel
theorem dX5_init_56 : decode cX5_init 56 = .ok (.aload_n 0, 1) := by decide +kernel
theorem dX5_init_57 : decode cX5_init 57 = .ok (.iconst 0, 1) := by decide +kernel
theorem dX5_init_58 : decode cX5_init 58 = .ok (.putfield 24, 3) := by decide +kernel
theorem dX5_init_61 : decode cX5_init 61 = .ok (.aload_n 0, 1) := by decide +kernel
theorem dX5_init_62 : decode cX5_init 62 = .ok (.new 27, 3) := by decide +kernel
theorem dX5_init_65 : decode cX5_init 65 = .ok (.dup, 1) := by decide +kernel
theorem dX5_init_66 : decode cX5_init 66 = .ok (.invokespecial 29, 3) := by decide +kernel
theorem dX5_init_69 : decode cX5_init 69 = .ok (.putfield 30, 3) := by decide +kernel
theorem dX5_init_72 : decode cX5_init 72 = .ok (.aload_n 0, 1) := by decide +kernel
theorem dX5_init_73 : decode cX5_init 73 = .ok (.new 34, 3) := by decide +kernel
theorem dX5_init_76 : decode cX5_init 76 = .ok (.dup, 1) := by decide +kernel
theorem dX5_init_77 : decode cX5_init 77 = .ok (.invokespecial 36, 3) := by decide +kernel
theorem dX5_init_80 : decode cX5_init 80 = .ok (.putfield 37, 3) := by decide +kernel
theorem dX5_init_83 : decode cX5_init 83 = .ok (.aload_n 0, 1) := by decide +kernel
theorem dX5_init_84 : decode cX5_init 84 = .ok (.new 41, 3) := by decide +kernel
theorem dX5_init_87 : decode cX5_init 87 = .ok (.dup, 1) := by decide +kernel
theorem dX5_init_88 : decode cX5_init 88 = .ok (.invokespecial 43, 3) := by decide +kernel
theorem dX5_init_91 : decode cX5_init 91 = .ok (.putfield 44, 3) := by decide +kernel
theorem dX5_init_94 : decode cX5_init 94 = .ok (.aload_n 0, 1) := by decide +kernel
theorem dX5_init_95 : decode cX5_init 95 = .ok (.new 48, 3) := by decide +kernel
theorem dX5_init_98 : decode cX5_init 98 = .ok (.dup, 1) := by decide +kernel
theorem dX5_init_99 : decode cX5_init 99 = .ok (.invokespecial 50, 3) := by decide +kernel
theorem dX5_init_102 : decode cX5_init 102 = .ok (.putfield 51, 3) := by decide +kernel
theorem dX5_init_105 : decode cX5_init 105 = .ok (.return_, 1) := by decide +kernel
set_option maxRecDepth 20000 in
theorem ggX5_add_X5_inRange : GoodIn wsX5_add wsX5_inRange := goodIn_r _ [6, 7, 8] (by decide +kernel) (by decide +kernel)
set_option maxRecDepth 20000 in
theorem gX5_add_X5_inRange : GoodIn wsX5_add (va_wsS RX5 55 yX5_inRange wsX5_inRange) := goodIn_app (goodIn_of _ (by decide +kernel)) ggX5_add_X5_inRange
set_option maxRecDepth 20000 in
theorem ggX5_add_X5_remember : GoodIn wsX5_add wsX5_remember := goodIn_r _ [12, 13, 14, 1, 15, 16, 17, 18, 19, 20, 21, 22, 23, 24, 25, 26, 27, 28, 29, 30, 31, 32, 33, 34, 35, 40, 41, 42, 43, 44, 45, 46, 47, 53, 54, 55, 56, 57, 58, 59, 60, 61, 62, 48, 49, 50, 51, 52] (by decide +kernel) (by decide +kernel)
set_option maxRecDepth 20000 in
theorem gX5_add_X5_remember : GoodIn wsX5_add (wsV RX5 62 RX5 yX5_remember wsX5_remember) := goodIn_app (goodIn_of _ (by decide +kernel)) ggX5_add_X5_remember
set_option maxRecDepth 20000 in
theorem ggX5_add_X4_append : GoodIn wsX5_add wsX4_append := goodIn_r _ [39, 35, 27, 32, 33, 48, 49, 50, 51, 52] (by decide +kernel) (by decide +kernel)
set_option maxRecDepth 20000 in
theorem gX5_add_X4_append : GoodIn wsX5_add (wsV RX5 65 RX4 yX4_append wsX4_append) := goodIn_app (goodIn_of _ (by decide +kernel)) ggX5_add_X4_append
theorem dX5_add_0 : decode cX5_add 0 = .ok (.iconst 0, 1) := by decide +kernel
theorem dX5_add_1 : decode cX5_add 1 = .ok (.iload_n 1, 1) := by decide +kernel
theorem dX5_add_2 : decode cX5_add 2 = .ok (.invokestatic 55, 3) := by decide +kernel
theorem dX5_add_5 : decode cX5_add 5 = .ok (.ifCond .eq 28, 3) := by decide +kernel
theorem dX5_add_8 : decode cX5_add 8 = .ok (.iconst 1, 1) := by decide +kernel
theorem dX5_add_9 : decode cX5_add 9 = .ok (.iload_n 2, 1) := by decide +kernel
theorem dX5_add_10 : decode cX5_add 10 = .ok (.invokestatic 55, 3) := by decide +kernel
theorem dX5_add_13 : decode cX5_add 13 = .ok (.ifCond .eq 20, 3) := by decide +kernel
theorem dX5_add_16 : decode cX5_add 16 = .ok (.iconst 2, 1) := by decide +kernel
theorem dX5_add_17 : decode cX5_add 17 = .ok (.iload_n 3, 1) := by decide +kernel
theorem dX5_add_18 : decode cX5_add 18 = .ok (.invokestatic 55, 3) := by decide +kernel
theorem dX5_add_21 : decode cX5_add 21 = .ok (.ifCond .eq 12, 3) := by decide +kernel
theorem dX5_add_24 : decode cX5_add 24 = .ok (.iconst 3, 1) := by decide +kernel
theorem dX5_add_25 : decode cX5_add 25 = .ok (.iload 4, 2) := by decide +kernel
theorem dX5_add_27 : decode cX5_add 27 = .ok (.invokestatic 55, 3) := by decide +kernel
theorem dX5_add_30 : decode cX5_add 30 = .ok (.ifCond .ne 6, 3) := by decide +kernel
theorem dX5_add_33 : decode cX5_add 33 = .ok (.bipush (-2), 2) := by decide +kernel
theorem dX5_add_35 : decode cX5_add 35 = .ok (.ireturn, 1) := by decide +kernel
theorem dX5_add_36 : decode cX5_add 36 = .ok (.aload_n 0, 1) := by decide +kernel
theorem dX5_add_37 : decode cX5_add 37 = .ok (.getfield 10, 3) := by decide +kernel
theorem dX5_add_40 : decode cX5_add 40 = .ok (.getfield 59, 3) := by decide +kernel
theorem dX5_add_43 : decode cX5_add 43 = .ok (.bipush 12, 2) := by decide +kernel
theorem dX5_add_45 : decode cX5_add 45 = .ok (.if_icmp .lt 6, 3) := by decide +kernel
theorem dX5_add_48 : decode cX5_add 48 = .ok (.bipush (-4), 2) := by decide +kernel
theorem dX5_add_50 : decode cX5_add 50 = .ok (.ireturn, 1) := by decide +kernel
theorem dX5_add_51 : decode cX5_add 51 = .ok (.aload_n 0, 1) := by decide +kernel
theorem dX5_add_52 : decode cX5_add 52 = .ok (.invokevirtual 62, 3) := by decide +kernel
theorem dX5_add_55 : decode cX5_add 55 = .ok (.aload_n 0, 1) := by decide +kernel
theorem dX5_add_56 : decode cX5_add 56 = .ok (.getfield 10, 3) := by decide +kernel
theorem dX5_add_59 : decode cX5_add 59 = .ok (.iload_n 1, 1) := by decide +kernel
theorem dX5_add_60 : decode cX5_add 60 = .ok (.iload_n 2, 1) := by decide +kernel
theorem dX5_add_61 : decode cX5_add 61 = .ok (.iload_n 3, 1) := by decide +kernel
theorem dX5_add_62 : decode cX5_add 62 = .ok (.iload 4, 2) := by decide +kernel
theorem dX5_add_64 : decode cX5_add 64 = .ok (.iconst (-1), 1) := by decide +kernel
theorem dX5_add_65 : decode cX5_add 65 = .ok (.invokevirtual 65, 3) := by decide +kernel
theorem dX5_add_68 : decode cX5_add 68 = .ok (.aload_n 0, 1) := by decide +kernel
theorem dX5_add_69 : decode cX5_add 69 = .ok (.getfield 10, 3) := by decide +kernel
theorem dX5_add_72 : decode cX5_add 72 = .ok (.getfield 59, 3) := by decide +kernel
theorem dX5_add_75 : decode cX5_add 75 = .ok (.iconst 1, 1) := by decide +kernel
theorem dX5_add_76 : decode cX5_add 76 = .ok (.isub, 1) := by decide +kernel
theorem dX5_add_77 : decode cX5_add 77 = .ok (.ireturn, 1) := by decide +kernel
set_option maxRecDepth 20000 in
theorem ggX5_remove_X5_exists : GoodIn wsX5_remove wsX5_exists := goodIn_r _ [7, 1, 2, 42, 43, 44, 45, 46, 47, 48, 49, 50, 51, 52, 53, 54] (by decide +kernel) (by decide +kernel)
set_option maxRecDepth 20000 in
theorem gX5_remove_X5_exists : GoodIn wsX5_remove (wsV RX5 69 RX5 yX5_exists wsX5_exists) := goodIn_app (goodIn_of _ (by decide +kernel)) ggX5_remove_X5_exists
set_option maxRecDepth 20000 in
theorem ggX5_remove_X5_remember : GoodIn wsX5_remove wsX5_remember := goodIn_r _ [11, 12, 13, 1, 14, 15, 16, 17, 18, 19, 20, 21, 22, 23, 24, 25, 26, 27, 28, 29, 30, 31, 32, 33, 34, 42, 43, 44, 45, 46, 47, 48, 49, 55, 56, 57, 58, 59, 60, 61, 62, 63, 64, 50, 51, 52, 53, 54] (by decide +kernel) (by decide +kernel)
set_option maxRecDepth 20000 in
theorem gX5_remove_X5_remember : GoodIn wsX5_remove (wsV RX5 62 RX5 yX5_remember wsX5_remember) := goodIn_app (goodIn_of _ (by decide +kernel)) ggX5_remove_X5_remember
set_option maxRecDepth 20000 in
theorem ggX5_remove_X4_takeOut : GoodIn wsX5_remove wsX4_takeOut := goodIn_r _ [38, 34, 26, 31, 32, 39, 40, 24, 41, 50, 51, 52, 53, 54] (by decide +kernel) (by decide +kernel)
set_option maxRecDepth 20000 in
theorem gX5_remove_X4_takeOut : GoodIn wsX5_remove (wsV RX5 73 RX4 yX4_takeOut wsX4_takeOut) := goodIn_app (goodIn_of _ (by decide +kernel)) ggX5_remove_X4_takeOut
theorem dX5_remove_0 : decode cX5_remove 0 = .ok (.aload_n 0, 1) := by decide +kernel
theorem dX5_remove_1 : decode cX5_remove 1 = .ok (.iload_n 1, 1) := by decide +kernel
theorem dX5_remove_2 : decode cX5_remove 2 = .ok (.invokevirtual 69, 3) := by decide +kernel
theorem dX5_remove_5 : decode cX5_remove 5 = .ok (.ifCond .ne 5, 3) := by decide +kernel
theorem dX5_remove_8 : decode cX5_remove 8 = .ok (.iconst (-1), 1) := by decide +kernel
theorem dX5_remove_9 : decode cX5_remove 9 = .ok (.ireturn, 1) := by decide +kernel
theorem dX5_remove_10 : decode cX5_remove 10 = .ok (.aload_n 0, 1) := by decide +kernel
theorem dX5_remove_11 : decode cX5_remove 11 = .ok (.invokevirtual 62, 3) := by decide +kernel
theorem dX5_remove_14 : decode cX5_remove 14 = .ok (.aload_n 0, 1) := by decide +kernel
theorem dX5_remove_15 : decode cX5_remove 15 = .ok (.getfield 10, 3) := by decide +kernel
theorem dX5_remove_18 : decode cX5_remove 18 = .ok (.iload_n 1, 1) := by decide +kernel
theorem dX5_remove_19 : decode cX5_remove 19 = .ok (.invokevirtual 73, 3) := by decide +kernel
theorem dX5_remove_22 : decode cX5_remove 22 = .ok (.aload_n 0, 1) := by decide +kernel
theorem dX5_remove_23 : decode cX5_remove 23 = .ok (.getfield 10, 3) := by decide +kernel
theorem dX5_remove_26 : decode cX5_remove 26 = .ok (.getfield 59, 3) := by decide +kernel
theorem dX5_remove_29 : decode cX5_remove 29 = .ok (.ireturn, 1) := by decide +kernel
set_option maxRecDepth 20000 in
theorem ggX5_set_X5_exists : GoodIn wsX5_set wsX5_exists := goodIn_r _ [7, 1, 8, 45, 46, 47, 48, 49, 50, 51, 52, 53, 54, 55, 56, 57] (by decide +kernel) (by decide +kernel)
set_option maxRecDepth 20000 in
theorem gX5_set_X5_exists : GoodIn wsX5_set (wsV RX5 69 RX5 yX5_exists wsX5_exists) := goodIn_app (goodIn_of _ (by decide +kernel)) ggX5_set_X5_exists
set_option maxRecDepth 20000 in
theorem ggX5_set_X5_inRange : GoodIn wsX5_set wsX5_inRange := goodIn_r _ [11, 12, 13] (by decide +kernel) (by decide +kernel)
set_option maxRecDepth 20000 in
theorem gX5_set_X5_inRange : GoodIn wsX5_set (va_wsS RX5 55 yX5_inRange wsX5_inRange) := goodIn_app (goodIn_of _ (by decide +kernel)) ggX5_set_X5_inRange
set_option maxRecDepth 20000 in
theorem ggX5_set_X5_propertyOf : GoodIn wsX5_set wsX5_propertyOf := goodIn_r _ [17, 1, 2, 45, 46, 47, 48, 49, 50, 51, 52, 53, 54, 55, 56, 57] (by decide +kernel) (by decide +kernel)
set_option maxRecDepth 20000 in
theorem gX5_set_X5_propertyOf : GoodIn wsX5_set (wsV RX5 77 RX5 yX5_propertyOf wsX5_propertyOf) := goodIn_app (goodIn_of _ (by decide +kernel)) ggX5_set_X5_propertyOf
set_option maxRecDepth 20000 in
theorem ggX5_set_X5_remember : GoodIn wsX5_set wsX5_remember := goodIn_r _ [21, 22, 23, 1, 24, 25, 26, 27, 28, 29, 30, 31, 32, 33, 34, 35, 36, 37, 38, 39, 40, 41, 42, 43, 44, 45, 46, 47, 48, 49, 50, 51, 52, 58, 59, 60, 61, 62, 63, 64, 65, 66, 67, 53, 54, 55, 56, 57] (by decide +kernel) (by decide +kernel)
set_option maxRecDepth 20000 in
theorem gX5_set_X5_remember : GoodIn wsX5_set (wsV RX5 62 RX5 yX5_remember wsX5_remember) := goodIn_app (goodIn_of _ (by decide +kernel)) ggX5_set_X5_remember
theorem dX5_set_0 : decode cX5_set 0 = .ok (.aload_n 0, 1) := by decide +kernel
theorem dX5_set_1 : decode cX5_set 1 = .ok (.iload_n 1, 1) := by decide +kernel
theorem dX5_set_2 : decode cX5_set 2 = .ok (.invokevirtual 69, 3) := by decide +kernel
theorem dX5_set_5 : decode cX5_set 5 = .ok (.ifCond .ne 5, 3) := by decide +kernel
theorem dX5_set_8 : decode cX5_set 8 = .ok (.iconst (-1), 1) := by decide +kernel
theorem dX5_set_9 : decode cX5_set 9 = .ok (.ireturn, 1) := by decide +kernel
theorem dX5_set_10 : decode cX5_set 10 = .ok (.iload_n 2, 1) := by decide +kernel
theorem dX5_set_11 : decode cX5_set 11 = .ok (.ifCond .lt 16, 3) := by decide +kernel
theorem dX5_set_14 : decode cX5_set 14 = .ok (.iload_n 2, 1) := by decide +kernel
theorem dX5_set_15 : decode cX5_set 15 = .ok (.iconst 5, 1) := by decide +kernel
theorem dX5_set_16 : decode cX5_set 16 = .ok (.if_icmp .ge 11, 3) := by decide +kernel
theorem dX5_set_19 : decode cX5_set 19 = .ok (.iload_n 2, 1) := by decide +kernel
theorem dX5_set_20 : decode cX5_set 20 = .ok (.iload_n 3, 1) := by decide +kernel
theorem dX5_set_21 : decode cX5_set 21 = .ok (.invokestatic 55, 3) := by decide +kernel
theorem dX5_set_24 : decode cX5_set 24 = .ok (.ifCond .ne 6, 3) := by decide +kernel
theorem dX5_set_27 : decode cX5_set 27 = .ok (.bipush (-2), 2) := by decide +kernel
theorem dX5_set_29 : decode cX5_set 29 = .ok (.ireturn, 1) := by decide +kernel
theorem dX5_set_30 : decode cX5_set 30 = .ok (.aload_n 0, 1) := by decide +kernel
theorem dX5_set_31 : decode cX5_set 31 = .ok (.iload_n 1, 1) := by decide +kernel
theorem dX5_set_32 : decode cX5_set 32 = .ok (.iload_n 2, 1) := by decide +kernel
theorem dX5_set_33 : decode cX5_set 33 = .ok (.invokevirtual 77, 3) := by decide +kernel
theorem dX5_set_36 : decode cX5_set 36 = .ok (.istore 4, 2) := by decide +kernel
theorem dX5_set_38 : decode cX5_set 38 = .ok (.aload_n 0, 1) := by decide +kernel
theorem dX5_set_39 : decode cX5_set 39 = .ok (.invokevirtual 62, 3) := by decide +kernel
theorem dX5_set_42 : decode cX5_set 42 = .ok (.aload_n 0, 1) := by decide +kernel
theorem dX5_set_43 : decode cX5_set 43 = .ok (.getfield 10, 3) := by decide +kernel
theorem dX5_set_46 : decode cX5_set 46 = .ok (.getfield 81, 3) := by decide +kernel
theorem dX5_set_49 : decode cX5_set 49 = .ok (.iload_n 2, 1) := by decide +kernel
theorem dX5_set_50 : decode cX5_set 50 = .ok (.aaload, 1) := by decide +kernel
theorem dX5_set_51 : decode cX5_set 51 = .ok (.iload_n 1, 1) := by decide +kernel
theorem dX5_set_52 : decode cX5_set 52 = .ok (.iload_n 3, 1) := by decide +kernel
theorem dX5_set_53 : decode cX5_set 53 = .ok (.iastore, 1) := by decide +kernel
theorem dX5_set_54 : decode cX5_set 54 = .ok (.iload 4, 2) := by decide +kernel
theorem dX5_set_56 : decode cX5_set 56 = .ok (.ireturn, 1) := by decide +kernel
set_option maxRecDepth 20000 in
theorem ggX5_item_X5_exists : GoodIn wsX5_item wsX5_exists := goodIn_r _ [8, 1, 9, 22, 23, 24, 25, 26, 27, 28, 29, 30, 31, 32, 33, 34] (by decide +kernel) (by decide +kernel)
set_option maxRecDepth 20000 in
theorem gX5_item_X5_exists : GoodIn wsX5_item (wsV RX5 69 RX5 yX5_exists wsX5_exists) := goodIn_app (goodIn_of _ (by decide +kernel)) ggX5_item_X5_exists
set_option maxRecDepth 20000 in
theorem ggX5_item_X5_propertyOf : GoodIn wsX5_item wsX5_propertyOf := goodIn_r _ [13, 1, 14, 22, 23, 24, 25, 26, 27, 28, 29, 30, 31, 32, 33, 34] (by decide +kernel) (by decide +kernel)
set_option maxRecDepth 20000 in
theorem gX5_item_X5_propertyOf : GoodIn wsX5_item (wsV RX5 77 RX5 yX5_propertyOf wsX5_propertyOf) := goodIn_app (goodIn_of _ (by decide +kernel)) ggX5_item_X5_propertyOf
set_option maxRecDepth 20000 in
theorem ggX5_item_X4_neededBy : GoodIn wsX5_item wsX4_neededBy := goodIn_r _ [19, 20, 21, 30, 31, 32, 33, 34] (by decide +kernel) (by decide +kernel)
set_option maxRecDepth 20000 in
theorem gX5_item_X4_neededBy : GoodIn wsX5_item (wsV RX5 92 RX4 yX4_neededBy wsX4_neededBy) := goodIn_app (goodIn_of _ (by decide +kernel)) ggX5_item_X4_neededBy
theorem dX5_item_0 : decode cX5_item 0 = .ok (.aload_n 0, 1) := by decide +kernel
theorem dX5_item_1 : decode cX5_item 1 = .ok (.iload_n 1, 1) := by decide +kernel
theorem dX5_item_2 : decode cX5_item 2 = .ok (.invokevirtual 69, 3) := by decide +kernel
theorem dX5_item_5 : decode cX5_item 5 = .ok (.ifCond .ne 5, 3) := by decide +kernel
theorem dX5_item_8 : decode cX5_item 8 = .ok (.iconst (-1), 1) := by decide +kernel
theorem dX5_item_9 : decode cX5_item 9 = .ok (.ireturn, 1) := by decide +kernel
theorem dX5_item_10 : decode cX5_item 10 = .ok (.iload_n 2, 1) := by decide +kernel
theorem dX5_item_11 : decode cX5_item 11 = .ok (.ifCond .lt 15, 3) := by decide +kernel
theorem dX5_item_14 : decode cX5_item 14 = .ok (.iload_n 2, 1) := by decide +kernel
theorem dX5_item_15 : decode cX5_item 15 = .ok (.iconst 5, 1) := by decide +kernel
theorem dX5_item_16 : decode cX5_item 16 = .ok (.if_icmp .ge 10, 3) := by decide +kernel
theorem dX5_item_19 : decode cX5_item 19 = .ok (.aload_n 0, 1) := by decide +kernel
theorem dX5_item_20 : decode cX5_item 20 = .ok (.iload_n 1, 1) := by decide +kernel
theorem dX5_item_21 : decode cX5_item 21 = .ok (.iload_n 2, 1) := by decide +kernel
theorem dX5_item_22 : decode cX5_item 22 = .ok (.invokevirtual 77, 3) := by decide +kernel
theorem dX5_item_25 : decode cX5_item 25 = .ok (.ireturn, 1) := by decide +kernel
theorem dX5_item_26 : decode cX5_item 26 = .ok (.iload_n 2, 1) := by decide +kernel
theorem dX5_item_27 : decode cX5_item 27 = .ok (.iconst 5, 1) := by decide +kernel
theorem dX5_item_28 : decode cX5_item 28 = .ok (.if_icmp .ne 13, 3) := by decide +kernel
theorem dX5_item_31 : decode cX5_item 31 = .ok (.aload_n 0, 1) := by decide +kernel
theorem dX5_item_32 : decode cX5_item 32 = .ok (.getfield 10, 3) := by decide +kernel
theorem dX5_item_35 : decode cX5_item 35 = .ok (.getfield 85, 3) := by decide +kernel
theorem dX5_item_38 : decode cX5_item 38 = .ok (.iload_n 1, 1) := by decide +kernel
theorem dX5_item_39 : decode cX5_item 39 = .ok (.iaload, 1) := by decide +kernel
theorem dX5_item_40 : decode cX5_item 40 = .ok (.ireturn, 1) := by decide +kernel
theorem dX5_item_41 : decode cX5_item 41 = .ok (.iload_n 2, 1) := by decide +kernel
theorem dX5_item_42 : decode cX5_item 42 = .ok (.bipush 6, 2) := by decide +kernel
theorem dX5_item_44 : decode cX5_item 44 = .ok (.if_icmp .ne 13, 3) := by decide +kernel
theorem dX5_item_47 : decode cX5_item 47 = .ok (.aload_n 0, 1) := by decide +kernel
theorem dX5_item_48 : decode cX5_item 48 = .ok (.getfield 10, 3) := by decide +kernel
theorem dX5_item_51 : decode cX5_item 51 = .ok (.getfield 89, 3) := by decide +kernel
theorem dX5_item_54 : decode cX5_item 54 = .ok (.iload_n 1, 1) := by decide +kernel
theorem dX5_item_55 : decode cX5_item 55 = .ok (.iaload, 1) := by decide +kernel
theorem dX5_item_56 : decode cX5_item 56 = .ok (.ireturn, 1) := by decide +kernel
theorem dX5_item_57 : decode cX5_item 57 = .ok (.iload_n 2, 1) := by decide +kernel
theorem dX5_item_58 : decode cX5_item 58 = .ok (.bipush 7, 2) := by decide +kernel
theorem dX5_item_60 : decode cX5_item 60 = .ok (.if_icmp .ne 12, 3) := by decide +kernel
theorem dX5_item_63 : decode cX5_item 63 = .ok (.aload_n 0, 1) := by decide +kernel
theorem dX5_item_64 : decode cX5_item 64 = .ok (.getfield 10, 3) := by decide +kernel
theorem dX5_item_67 : decode cX5_item 67 = .ok (.iload_n 1, 1) := by decide +kernel
theorem dX5_item_68 : decode cX5_item 68 = .ok (.invokevirtual 92, 3) := by decide +kernel
theorem dX5_item_71 : decode cX5_item 71 = .ok (.ireturn, 1) := by decide +kernel
theorem dX5_item_72 : decode cX5_item 72 = .ok (.bipush (-2), 2) := by decide +kernel
theorem dX5_item_74 : decode cX5_item 74 = .ok (.ireturn, 1) := by decide +kernel
set_option maxRecDepth 20000 in
theorem ggX5_conflict_X5_pairError : GoodIn wsX5_conflict wsX5_pairError := goodIn_r _ [7, 8, 9, 10, 6, 11, 1, 12, 40, 41, 42, 43, 44, 45, 46, 47, 48, 49, 50, 51, 52] (by decide +kernel) (by decide +kernel)
set_option maxRecDepth 20000 in
theorem gX5_conflict_X5_pairError : GoodIn wsX5_conflict (wsV RX5 96 RX5 yX5_pairError wsX5_pairError) := goodIn_app (goodIn_of _ (by decide +kernel)) ggX5_conflict_X5_pairError
set_option maxRecDepth 20000 in
theorem ggX5_conflict_X5_remember : GoodIn wsX5_conflict wsX5_remember := goodIn_r _ [16, 17, 18, 1, 19, 20, 21, 22, 23, 24, 25, 26, 27, 28, 29, 30, 31, 32, 33, 34, 35, 36, 37, 38, 39, 40, 41, 42, 43, 44, 45, 46, 47, 53, 54, 55, 56, 57, 58, 59, 60, 61, 62, 48, 49, 50, 51, 52] (by decide +kernel) (by decide +kernel)
set_option maxRecDepth 20000 in
theorem gX5_conflict_X5_remember : GoodIn wsX5_conflict (wsV RX5 62 RX5 yX5_remember wsX5_remember) := goodIn_app (goodIn_of _ (by decide +kernel)) ggX5_conflict_X5_remember
theorem dX5_conflict_0 : decode cX5_conflict 0 = .ok (.aload_n 0, 1) := by decide +kernel
theorem dX5_conflict_1 : decode cX5_conflict 1 = .ok (.iload_n 1, 1) := by decide +kernel
theorem dX5_conflict_2 : decode cX5_conflict 2 = .ok (.iload_n 2, 1) := by decide +kernel
theorem dX5_conflict_3 : decode cX5_conflict 3 = .ok (.invokevirtual 96, 3) := by decide +kernel
theorem dX5_conflict_6 : decode cX5_conflict 6 = .ok (.istore_n 3, 1) := by decide +kernel
theorem dX5_conflict_7 : decode cX5_conflict 7 = .ok (.iload_n 3, 1) := by decide +kernel
theorem dX5_conflict_8 : decode cX5_conflict 8 = .ok (.ifCond .eq 5, 3) := by decide +kernel
theorem dX5_conflict_11 : decode cX5_conflict 11 = .ok (.iload_n 3, 1) := by decide +kernel
theorem dX5_conflict_12 : decode cX5_conflict 12 = .ok (.ireturn, 1) := by decide +kernel
theorem dX5_conflict_13 : decode cX5_conflict 13 = .ok (.aload_n 0, 1) := by decide +kernel
theorem dX5_conflict_14 : decode cX5_conflict 14 = .ok (.invokevirtual 62, 3) := by decide +kernel
theorem dX5_conflict_17 : decode cX5_conflict 17 = .ok (.aload_n 0, 1) := by decide +kernel
theorem dX5_conflict_18 : decode cX5_conflict 18 = .ok (.getfield 10, 3) := by decide +kernel
theorem dX5_conflict_21 : decode cX5_conflict 21 = .ok (.getfield 85, 3) := by decide +kernel
theorem dX5_conflict_24 : decode cX5_conflict 24 = .ok (.iload_n 1, 1) := by decide +kernel
theorem dX5_conflict_25 : decode cX5_conflict 25 = .ok (.dup2, 1) := by decide +kernel
theorem dX5_conflict_26 : decode cX5_conflict 26 = .ok (.iaload, 1) := by decide +kernel
theorem dX5_conflict_27 : decode cX5_conflict 27 = .ok (.iconst 1, 1) := by decide +kernel
theorem dX5_conflict_28 : decode cX5_conflict 28 = .ok (.iload_n 2, 1) := by decide +kernel
theorem dX5_conflict_29 : decode cX5_conflict 29 = .ok (.ishl, 1) := by decide +kernel
theorem dX5_conflict_30 : decode cX5_conflict 30 = .ok (.ixor, 1) := by decide +kernel
theorem dX5_conflict_31 : decode cX5_conflict 31 = .ok (.iastore, 1) := by decide +kernel
theorem dX5_conflict_32 : decode cX5_conflict 32 = .ok (.aload_n 0, 1) := by decide +kernel
theorem dX5_conflict_33 : decode cX5_conflict 33 = .ok (.getfield 10, 3) := by decide +kernel
theorem dX5_conflict_36 : decode cX5_conflict 36 = .ok (.getfield 85, 3) := by decide +kernel
theorem dX5_conflict_39 : decode cX5_conflict 39 = .ok (.iload_n 2, 1) := by decide +kernel
theorem dX5_conflict_40 : decode cX5_conflict 40 = .ok (.dup2, 1) := by decide +kernel
theorem dX5_conflict_41 : decode cX5_conflict 41 = .ok (.iaload, 1) := by decide +kernel
theorem dX5_conflict_42 : decode cX5_conflict 42 = .ok (.iconst 1, 1) := by decide +kernel
theorem dX5_conflict_43 : decode cX5_conflict 43 = .ok (.iload_n 1, 1) := by decide +kernel
theorem dX5_conflict_44 : decode cX5_conflict 44 = .ok (.ishl, 1) := by decide +kernel
theorem dX5_conflict_45 : decode cX5_conflict 45 = .ok (.ixor, 1) := by decide +kernel
theorem dX5_conflict_46 : decode cX5_conflict 46 = .ok (.iastore, 1) := by decide +kernel
theorem dX5_conflict_47 : decode cX5_conflict 47 = .ok (.aload_n 0, 1) := by decide +kernel
theorem dX5_conflict_48 : decode cX5_conflict 48 = .ok (.getfield 10, 3) := by decide +kernel
theorem dX5_conflict_51 : decode cX5_conflict 51 = .ok (.getfield 85, 3) := by decide +kernel
theorem dX5_conflict_54 : decode cX5_conflict 54 = .ok (.iload_n 1, 1) := by decide +kernel
theorem dX5_conflict_55 : decode cX5_conflict 55 = .ok (.iaload, 1) := by decide +kernel
theorem dX5_conflict_56 : decode cX5_conflict 56 = .ok (.iload_n 2, 1) := by decide +kernel
theorem dX5_conflict_57 : decode cX5_conflict 57 = .ok (.ishr, 1) := by decide +kernel
theorem dX5_conflict_58 : decode cX5_conflict 58 = .ok (.iconst 1, 1) := by decide +kernel
theorem dX5_conflict_59 : decode cX5_conflict 59 = .ok (.iand, 1) := by decide +kernel
theorem dX5_conflict_60 : decode cX5_conflict 60 = .ok (.ireturn, 1) := by decide +kernel
set_option maxRecDepth 20000 in
theorem ggX5_need_X5_pairError : GoodIn wsX5_need wsX5_pairError := goodIn_r _ [7, 8, 9, 10, 6, 11, 1, 12, 40, 41, 42, 43, 44, 45, 46, 47, 48, 49, 50, 51, 52] (by decide +kernel) (by decide +kernel)
set_option maxRecDepth 20000 in
theorem gX5_need_X5_pairError : GoodIn wsX5_need (wsV RX5 96 RX5 yX5_pairError wsX5_pairError) := goodIn_app (goodIn_of _ (by decide +kernel)) ggX5_need_X5_pairError
set_option maxRecDepth 20000 in
theorem ggX5_need_X5_remember : GoodIn wsX5_need wsX5_remember := goodIn_r _ [16, 17, 18, 1, 19, 20, 21, 22, 23, 24, 25, 26, 27, 28, 29, 30, 31, 32, 33, 34, 35, 36, 37, 38, 39, 40, 41, 42, 43, 44, 45, 46, 47, 53, 54, 55, 56, 57, 58, 59, 60, 61, 62, 48, 49, 50, 51, 52] (by decide +kernel) (by decide +kernel)
set_option maxRecDepth 20000 in
theorem gX5_need_X5_remember : GoodIn wsX5_need (wsV RX5 62 RX5 yX5_remember wsX5_remember) := goodIn_app (goodIn_of _ (by decide +kernel)) ggX5_need_X5_remember
theorem dX5_need_0 : decode cX5_need 0 = .ok (.aload_n 0, 1) := by decide +kernel
theorem dX5_need_1 : decode cX5_need 1 = .ok (.iload_n 1, 1) := by decide +kernel
theorem dX5_need_2 : decode cX5_need 2 = .ok (.iload_n 2, 1) := by decide +kernel
theorem dX5_need_3 : decode cX5_need 3 = .ok (.invokevirtual 96, 3) := by decide +kernel
theorem dX5_need_6 : decode cX5_need 6 = .ok (.istore_n 3, 1) := by decide +kernel
theorem dX5_need_7 : decode cX5_need 7 = .ok (.iload_n 3, 1) := by decide +kernel
theorem dX5_need_8 : decode cX5_need 8 = .ok (.ifCond .eq 5, 3) := by decide +kernel
theorem dX5_need_11 : decode cX5_need 11 = .ok (.iload_n 3, 1) := by decide +kernel
theorem dX5_need_12 : decode cX5_need 12 = .ok (.ireturn, 1) := by decide +kernel
theorem dX5_need_13 : decode cX5_need 13 = .ok (.aload_n 0, 1) := by decide +kernel
theorem dX5_need_14 : decode cX5_need 14 = .ok (.invokevirtual 62, 3) := by decide +kernel
theorem dX5_need_17 : decode cX5_need 17 = .ok (.aload_n 0, 1) := by decide +kernel
theorem dX5_need_18 : decode cX5_need 18 = .ok (.getfield 10, 3) := by decide +kernel
theorem dX5_need_21 : decode cX5_need 21 = .ok (.getfield 89, 3) := by decide +kernel
theorem dX5_need_24 : decode cX5_need 24 = .ok (.iload_n 1, 1) := by decide +kernel
theorem dX5_need_25 : decode cX5_need 25 = .ok (.dup2, 1) := by decide +kernel
theorem dX5_need_26 : decode cX5_need 26 = .ok (.iaload, 1) := by decide +kernel
theorem dX5_need_27 : decode cX5_need 27 = .ok (.iconst 1, 1) := by decide +kernel
theorem dX5_need_28 : decode cX5_need 28 = .ok (.iload_n 2, 1) := by decide +kernel
theorem dX5_need_29 : decode cX5_need 29 = .ok (.ishl, 1) := by decide +kernel
theorem dX5_need_30 : decode cX5_need 30 = .ok (.ixor, 1) := by decide +kernel
theorem dX5_need_31 : decode cX5_need 31 = .ok (.iastore, 1) := by decide +kernel
theorem dX5_need_32 : decode cX5_need 32 = .ok (.aload_n 0, 1) := by decide +kernel
theorem dX5_need_33 : decode cX5_need 33 = .ok (.getfield 10, 3) := by decide +kernel
theorem dX5_need_36 : decode cX5_need 36 = .ok (.getfield 89, 3) := by decide +kernel
theorem dX5_need_39 : decode cX5_need 39 = .ok (.iload_n 1, 1) := by decide +kernel
theorem dX5_need_40 : decode cX5_need 40 = .ok (.iaload, 1) := by decide +kernel
theorem dX5_need_41 : decode cX5_need 41 = .ok (.iload_n 2, 1) := by decide +kernel
theorem dX5_need_42 : decode cX5_need 42 = .ok (.ishr, 1) := by decide +kernel
theorem dX5_need_43 : decode cX5_need 43 = .ok (.iconst 1, 1) := by decide +kernel
theorem dX5_need_44 : decode cX5_need 44 = .ok (.iand, 1) := by decide +kernel
theorem dX5_need_45 : decode cX5_need 45 = .ok (.ireturn, 1) := by decide +kernel
set_option maxRecDepth 20000 in
theorem ggX5_rule_X5_remember : GoodIn wsX5_rule wsX5_remember := goodIn_r _ [8, 9, 10, 2, 11, 12, 13, 14, 15, 16, 17, 18, 19, 20, 21, 22, 23, 24, 25, 26, 27, 28, 29, 30, 31, 32, 33, 34, 35, 36, 37, 38, 39, 45, 46, 47, 48, 49, 50, 51, 52, 53, 54, 40, 41, 42, 43, 44] (by decide +kernel) (by decide +kernel)
set_option maxRecDepth 20000 in
theorem gX5_rule_X5_remember : GoodIn wsX5_rule (wsV RX5 62 RX5 yX5_remember wsX5_remember) := goodIn_app (goodIn_of _ (by decide +kernel)) ggX5_rule_X5_remember
theorem dX5_rule_0 : decode cX5_rule 0 = .ok (.iload_n 1, 1) := by decide +kernel
theorem dX5_rule_1 : decode cX5_rule 1 = .ok (.ifCond .lt 21, 3) := by decide +kernel
theorem dX5_rule_4 : decode cX5_rule 4 = .ok (.iload_n 1, 1) := by decide +kernel
theorem dX5_rule_5 : decode cX5_rule 5 = .ok (.iconst 3, 1) := by decide +kernel
theorem dX5_rule_6 : decode cX5_rule 6 = .ok (.if_icmp .ge 16, 3) := by decide +kernel
theorem dX5_rule_9 : decode cX5_rule 9 = .ok (.iload_n 2, 1) := by decide +kernel
theorem dX5_rule_10 : decode cX5_rule 10 = .ok (.ifCond .lt 12, 3) := by decide +kernel
theorem dX5_rule_13 : decode cX5_rule 13 = .ok (.iload_n 2, 1) := by decide +kernel
theorem dX5_rule_14 : decode cX5_rule 14 = .ok (.getstatic 99, 3) := by decide +kernel
theorem dX5_rule_17 : decode cX5_rule 17 = .ok (.iload_n 1, 1) := by decide +kernel
theorem dX5_rule_18 : decode cX5_rule 18 = .ok (.iaload, 1) := by decide +kernel
theorem dX5_rule_19 : decode cX5_rule 19 = .ok (.if_icmp .le 6, 3) := by decide +kernel
theorem dX5_rule_22 : decode cX5_rule 22 = .ok (.bipush (-2), 2) := by decide +kernel
theorem dX5_rule_24 : decode cX5_rule 24 = .ok (.ireturn, 1) := by decide +kernel
theorem dX5_rule_25 : decode cX5_rule 25 = .ok (.aload_n 0, 1) := by decide +kernel
theorem dX5_rule_26 : decode cX5_rule 26 = .ok (.getfield 10, 3) := by decide +kernel
theorem dX5_rule_29 : decode cX5_rule 29 = .ok (.getfield 102, 3) := by decide +kernel
theorem dX5_rule_32 : decode cX5_rule 32 = .ok (.iload_n 1, 1) := by decide +kernel
theorem dX5_rule_33 : decode cX5_rule 33 = .ok (.iaload, 1) := by decide +kernel
theorem dX5_rule_34 : decode cX5_rule 34 = .ok (.istore_n 3, 1) := by decide +kernel
theorem dX5_rule_35 : decode cX5_rule 35 = .ok (.aload_n 0, 1) := by decide +kernel
theorem dX5_rule_36 : decode cX5_rule 36 = .ok (.invokevirtual 62, 3) := by decide +kernel
theorem dX5_rule_39 : decode cX5_rule 39 = .ok (.aload_n 0, 1) := by decide +kernel
theorem dX5_rule_40 : decode cX5_rule 40 = .ok (.getfield 10, 3) := by decide +kernel
theorem dX5_rule_43 : decode cX5_rule 43 = .ok (.getfield 102, 3) := by decide +kernel
theorem dX5_rule_46 : decode cX5_rule 46 = .ok (.iload_n 1, 1) := by decide +kernel
theorem dX5_rule_47 : decode cX5_rule 47 = .ok (.iload_n 2, 1) := by decide +kernel
theorem dX5_rule_48 : decode cX5_rule 48 = .ok (.iastore, 1) := by decide +kernel
theorem dX5_rule_49 : decode cX5_rule 49 = .ok (.iload_n 3, 1) := by decide +kernel
theorem dX5_rule_50 : decode cX5_rule 50 = .ok (.ireturn, 1) := by decide +kernel
set_option maxRecDepth 20000 in
theorem ggX5_put_X1_lengthOf : GoodIn wsX5_put wsX1_lengthOf := goodIn_r _ [6, 7] (by decide +kernel) (by decide +kernel)
set_option maxRecDepth 20000 in
theorem gX5_put_X1_lengthOf : GoodIn wsX5_put (va_wsS RX5 105 yX1_lengthOf wsX1_lengthOf) := goodIn_app (goodIn_of _ (by decide +kernel)) ggX5_put_X1_lengthOf
set_option maxRecDepth 20000 in
theorem ggX5_put_X1_append : GoodIn wsX5_put wsX1_append := goodIn_r _ [11, 12, 13, 7, 22, 23, 24, 25, 26] (by decide +kernel) (by decide +kernel)
set_option maxRecDepth 20000 in
theorem gX5_put_X1_append : GoodIn wsX5_put (wsV RX5 112 RX1 yX1_append wsX1_append) := goodIn_app (goodIn_of _ (by decide +kernel)) ggX5_put_X1_append
theorem dX5_put_0 : decode cX5_put 0 = .ok (.lload_n 1, 1) := by decide +kernel
theorem dX5_put_1 : decode cX5_put 1 = .ok (.invokestatic 105, 3) := by decide +kernel
theorem dX5_put_4 : decode cX5_put 4 = .ok (.istore_n 3, 1) := by decide +kernel
theorem dX5_put_5 : decode cX5_put 5 = .ok (.iload_n 3, 1) := by decide +kernel
theorem dX5_put_6 : decode cX5_put 6 = .ok (.ifCond .ne 6, 3) := by decide +kernel
theorem dX5_put_9 : decode cX5_put 9 = .ok (.bipush (-2), 2) := by decide +kernel
theorem dX5_put_11 : decode cX5_put 11 = .ok (.ireturn, 1) := by decide +kernel
theorem dX5_put_12 : decode cX5_put 12 = .ok (.aload_n 0, 1) := by decide +kernel
theorem dX5_put_13 : decode cX5_put 13 = .ok (.getfield 30, 3) := by decide +kernel
theorem dX5_put_16 : decode cX5_put 16 = .ok (.getfield 109, 3) := by decide +kernel
theorem dX5_put_19 : decode cX5_put 19 = .ok (.iload_n 3, 1) := by decide +kernel
theorem dX5_put_20 : decode cX5_put 20 = .ok (.iadd, 1) := by decide +kernel
theorem dX5_put_21 : decode cX5_put 21 = .ok (.bipush 80, 2) := by decide +kernel
theorem dX5_put_23 : decode cX5_put 23 = .ok (.if_icmp .le 6, 3) := by decide +kernel
theorem dX5_put_26 : decode cX5_put 26 = .ok (.bipush (-4), 2) := by decide +kernel
theorem dX5_put_28 : decode cX5_put 28 = .ok (.ireturn, 1) := by decide +kernel
theorem dX5_put_29 : decode cX5_put 29 = .ok (.aload_n 0, 1) := by decide +kernel
theorem dX5_put_30 : decode cX5_put 30 = .ok (.getfield 30, 3) := by decide +kernel
theorem dX5_put_33 : decode cX5_put 33 = .ok (.lload_n 1, 1) := by decide +kernel
theorem dX5_put_34 : decode cX5_put 34 = .ok (.iload_n 3, 1) := by decide +kernel
theorem dX5_put_35 : decode cX5_put 35 = .ok (.invokevirtual 112, 3) := by decide +kernel
theorem dX5_put_38 : decode cX5_put 38 = .ok (.aload_n 0, 1) := by decide +kernel
theorem dX5_put_39 : decode cX5_put 39 = .ok (.getfield 30, 3) := by decide +kernel
theorem dX5_put_42 : decode cX5_put 42 = .ok (.getfield 109, 3) := by decide +kernel
theorem dX5_put_45 : decode cX5_put 45 = .ok (.ireturn, 1) := by decide +kernel
theorem dX5_wipe_0 : decode cX5_wipe 0 = .ok (.aload_n 0, 1) := by decide +kernel
theorem dX5_wipe_1 : decode cX5_wipe 1 = .ok (.getfield 30, 3) := by decide +kernel
theorem dX5_wipe_4 : decode cX5_wipe 4 = .ok (.getfield 109, 3) := by decide +kernel
theorem dX5_wipe_7 : decode cX5_wipe 7 = .ok (.istore_n 1, 1) := by decide +kernel
theorem dX5_wipe_8 : decode cX5_wipe 8 = .ok (.aload_n 0, 1) := by decide +kernel
theorem dX5_wipe_9 : decode cX5_wipe 9 = .ok (.getfield 30, 3) := by decide +kernel
theorem dX5_wipe_12 : decode cX5_wipe 12 = .ok (.iconst 0, 1) := by decide +kernel
theorem dX5_wipe_13 : decode cX5_wipe 13 = .ok (.putfield 109, 3) := by decide +kernel
theorem dX5_wipe_16 : decode cX5_wipe 16 = .ok (.iload_n 1, 1) := by decide +kernel
theorem dX5_wipe_17 : decode cX5_wipe 17 = .ok (.ireturn, 1) := by decide +kernel
set_option maxRecDepth 20000 in
theorem ggX5_fault_X1_read : GoodIn wsX5_fault wsX1_read := goodIn_r _ [7, 8, 9, 10, 11, 12, 13, 6, 14, 15, 16, 17, 18, 19, 20, 21, 22, 23, 24, 25, 26, 27, 28, 29, 30, 31, 32, 33, 34, 35, 36, 45, 46, 47, 48, 49] (by decide +kernel) (by decide +kernel)
set_option maxRecDepth 20000 in
theorem gX5_fault_X1_read : GoodIn wsX5_fault (wsV RX5 115 RX1 yX1_read wsX1_read) := goodIn_app (goodIn_of _ (by decide +kernel)) ggX5_fault_X1_read
theorem dX5_fault_0 : decode cX5_fault 0 = .ok (.aload_n 0, 1) := by decide +kernel
theorem dX5_fault_1 : decode cX5_fault 1 = .ok (.getfield 30, 3) := by decide +kernel
theorem dX5_fault_4 : decode cX5_fault 4 = .ok (.invokevirtual 115, 3) := by decide +kernel
theorem dX5_fault_7 : decode cX5_fault 7 = .ok (.ifCond .eq 8, 3) := by decide +kernel
theorem dX5_fault_10 : decode cX5_fault 10 = .ok (.bipush (-6), 2) := by decide +kernel
theorem dX5_fault_12 : decode cX5_fault 12 = .ok (.goto 10, 3) := by decide +kernel
theorem dX5_fault_15 : decode cX5_fault 15 = .ok (.aload_n 0, 1) := by decide +kernel
theorem dX5_fault_16 : decode cX5_fault 16 = .ok (.getfield 30, 3) := by decide +kernel
theorem dX5_fault_19 : decode cX5_fault 19 = .ok (.getfield 119, 3) := by decide +kernel
theorem dX5_fault_22 : decode cX5_fault 22 = .ok (.ireturn, 1) := by decide +kernel
set_option maxRecDepth 20000 in
theorem ggX5_load_X1_read : GoodIn wsX5_load wsX1_read := goodIn_r _ [11, 12, 13, 14, 15, 16, 17, 10, 18, 19, 20, 21, 22, 23, 24, 25, 26, 27, 28, 29, 30, 31, 32, 33, 34, 35, 36, 37, 38, 39, 40, 86, 87, 88, 89, 90] (by decide +kernel) (by decide +kernel)
set_option maxRecDepth 20000 in
theorem gX5_load_X1_read : GoodIn wsX5_load (wsV RX5 115 RX1 yX1_read wsX1_read) := goodIn_app (goodIn_of _ (by decide +kernel)) ggX5_load_X1_read
set_option maxRecDepth 20000 in
theorem ggX5_load_X5_remember : GoodIn wsX5_load wsX5_remember := goodIn_r _ [45, 46, 47, 2, 48, 49, 50, 51, 52, 53, 54, 55, 56, 57, 58, 59, 60, 61, 62, 63, 64, 65, 66, 67, 68, 73, 74, 75, 76, 77, 78, 79, 80, 91, 92, 93, 94, 95, 96, 97, 98, 99, 100, 81, 82, 83, 84, 85] (by decide +kernel) (by decide +kernel)
set_option maxRecDepth 20000 in
theorem gX5_load_X5_remember : GoodIn wsX5_load (wsV RX5 62 RX5 yX5_remember wsX5_remember) := goodIn_app (goodIn_of _ (by decide +kernel)) ggX5_load_X5_remember
set_option maxRecDepth 20000 in
theorem ggX5_load_X4_append : GoodIn wsX5_load wsX4_append := goodIn_r _ [72, 68, 60, 65, 66, 81, 82, 83, 84, 85] (by decide +kernel) (by decide +kernel)
set_option maxRecDepth 20000 in
theorem gX5_load_X4_append : GoodIn wsX5_load (wsV RX5 65 RX4 yX4_append wsX4_append) := goodIn_app (goodIn_of _ (by decide +kernel)) ggX5_load_X4_append
theorem dX5_load_0 : decode cX5_load 0 = .ok (.aload_n 0, 1) := by decide +kernel
theorem dX5_load_1 : decode cX5_load 1 = .ok (.getfield 30, 3) := by decide +kernel
theorem dX5_load_4 : decode cX5_load 4 = .ok (.invokevirtual 115, 3) := by decide +kernel
theorem dX5_load_7 : decode cX5_load 7 = .ok (.ifCond .ne 6, 3) := by decide +kernel
theorem dX5_load_10 : decode cX5_load 10 = .ok (.bipush (-3), 2) := by decide +kernel
theorem dX5_load_12 : decode cX5_load 12 = .ok (.ireturn, 1) := by decide +kernel
theorem dX5_load_13 : decode cX5_load 13 = .ok (.aload_n 0, 1) := by decide +kernel
theorem dX5_load_14 : decode cX5_load 14 = .ok (.getfield 10, 3) := by decide +kernel
theorem dX5_load_17 : decode cX5_load 17 = .ok (.getfield 59, 3) := by decide +kernel
theorem dX5_load_20 : decode cX5_load 20 = .ok (.aload_n 0, 1) := by decide +kernel
theorem dX5_load_21 : decode cX5_load 21 = .ok (.getfield 30, 3) := by decide +kernel
theorem dX5_load_24 : decode cX5_load 24 = .ok (.getfield 122, 3) := by decide +kernel
theorem dX5_load_27 : decode cX5_load 27 = .ok (.iadd, 1) := by decide +kernel
theorem dX5_load_28 : decode cX5_load 28 = .ok (.bipush 12, 2) := by decide +kernel
theorem dX5_load_30 : decode cX5_load 30 = .ok (.if_icmp .le 6, 3) := by decide +kernel
theorem dX5_load_33 : decode cX5_load 33 = .ok (.bipush (-4), 2) := by decide +kernel
theorem dX5_load_35 : decode cX5_load 35 = .ok (.ireturn, 1) := by decide +kernel
theorem dX5_load_36 : decode cX5_load 36 = .ok (.aload_n 0, 1) := by decide +kernel
theorem dX5_load_37 : decode cX5_load 37 = .ok (.invokevirtual 62, 3) := by decide +kernel
theorem dX5_load_40 : decode cX5_load 40 = .ok (.iconst 0, 1) := by decide +kernel
theorem dX5_load_41 : decode cX5_load 41 = .ok (.istore_n 1, 1) := by decide +kernel
theorem dX5_load_42 : decode cX5_load 42 = .ok (.iload_n 1, 1) := by decide +kernel
theorem dX5_load_43 : decode cX5_load 43 = .ok (.aload_n 0, 1) := by decide +kernel
theorem dX5_load_44 : decode cX5_load 44 = .ok (.getfield 30, 3) := by decide +kernel
theorem dX5_load_47 : decode cX5_load 47 = .ok (.getfield 122, 3) := by decide +kernel
theorem dX5_load_50 : decode cX5_load 50 = .ok (.if_icmp .ge 71, 3) := by decide +kernel
theorem dX5_load_53 : decode cX5_load 53 = .ok (.aload_n 0, 1) := by decide +kernel
theorem dX5_load_54 : decode cX5_load 54 = .ok (.getfield 10, 3) := by decide +kernel
theorem dX5_load_57 : decode cX5_load 57 = .ok (.aload_n 0, 1) := by decide +kernel
theorem dX5_load_58 : decode cX5_load 58 = .ok (.getfield 30, 3) := by decide +kernel
theorem dX5_load_61 : decode cX5_load 61 = .ok (.getfield 125, 3) := by decide +kernel
theorem dX5_load_64 : decode cX5_load 64 = .ok (.iconst 0, 1) := by decide +kernel
theorem dX5_load_65 : decode cX5_load 65 = .ok (.aaload, 1) := by decide +kernel
theorem dX5_load_66 : decode cX5_load 66 = .ok (.iload_n 1, 1) := by decide +kernel
theorem dX5_load_67 : decode cX5_load 67 = .ok (.iaload, 1) := by decide +kernel
theorem dX5_load_68 : decode cX5_load 68 = .ok (.aload_n 0, 1) := by decide +kernel
theorem dX5_load_69 : decode cX5_load 69 = .ok (.getfield 30, 3) := by decide +kernel
theorem dX5_load_72 : decode cX5_load 72 = .ok (.getfield 125, 3) := by decide +kernel
theorem dX5_load_75 : decode cX5_load 75 = .ok (.iconst 1, 1) := by decide +kernel
theorem dX5_load_76 : decode cX5_load 76 = .ok (.aaload, 1) := by decide +kernel
theorem dX5_load_77 : decode cX5_load 77 = .ok (.iload_n 1, 1) := by decide +kernel
theorem dX5_load_78 : decode cX5_load 78 = .ok (.iaload, 1) := by decide +kernel
theorem dX5_load_79 : decode cX5_load 79 = .ok (.aload_n 0, 1) := by decide +kernel
theorem dX5_load_80 : decode cX5_load 80 = .ok (.getfield 30, 3) := by decide +kernel
theorem dX5_load_83 : decode cX5_load 83 = .ok (.getfield 125, 3) := by decide +kernel
theorem dX5_load_86 : decode cX5_load 86 = .ok (.iconst 2, 1) := by decide +kernel
theorem dX5_load_87 : decode cX5_load 87 = .ok (.aaload, 1) := by decide +kernel
theorem dX5_load_88 : decode cX5_load 88 = .ok (.iload_n 1, 1) := by decide +kernel
theorem dX5_load_89 : decode cX5_load 89 = .ok (.iaload, 1) := by decide +kernel
theorem dX5_load_90 : decode cX5_load 90 = .ok (.aload_n 0, 1) := by decide +kernel
theorem dX5_load_91 : decode cX5_load 91 = .ok (.getfield 30, 3) := by decide +kernel
theorem dX5_load_94 : decode cX5_load 94 = .ok (.getfield 125, 3) := by decide +kernel
theorem dX5_load_97 : decode cX5_load 97 = .ok (.iconst 3, 1) := by decide +kernel
theorem dX5_load_98 : decode cX5_load 98 = .ok (.aaload, 1) := by decide +kernel
theorem dX5_load_99 : decode cX5_load 99 = .ok (.iload_n 1, 1) := by decide +kernel
theorem dX5_load_100 : decode cX5_load 100 = .ok (.iaload, 1) := by decide +kernel
theorem dX5_load_101 : decode cX5_load 101 = .ok (.aload_n 0, 1) := by decide +kernel
theorem dX5_load_102 : decode cX5_load 102 = .ok (.getfield 30, 3) := by decide +kernel
theorem dX5_load_105 : decode cX5_load 105 = .ok (.getfield 125, 3) := by decide +kernel
theorem dX5_load_108 : decode cX5_load 108 = .ok (.iconst 4, 1) := by decide +kernel
theorem dX5_load_109 : decode cX5_load 109 = .ok (.aaload, 1) := by decide +kernel
theorem dX5_load_110 : decode cX5_load 110 = .ok (.iload_n 1, 1) := by decide +kernel
theorem dX5_load_111 : decode cX5_load 111 = .ok (.iaload, 1) := by decide +kernel
theorem dX5_load_112 : decode cX5_load 112 = .ok (.invokevirtual 65, 3) := by decide +kernel
theorem dX5_load_115 : decode cX5_load 115 = .ok (.iinc 1 1, 3) := by decide +kernel
theorem dX5_load_118 : decode cX5_load 118 = .ok (.goto (-76), 3) := by decide +kernel
theorem dX5_load_121 : decode cX5_load 121 = .ok (.aload_n 0, 1) := by decide +kernel
theorem dX5_load_122 : decode cX5_load 122 = .ok (.getfield 30, 3) := by decide +kernel
theorem dX5_load_125 : decode cX5_load 125 = .ok (.iconst 0, 1) := by decide +kernel
theorem dX5_load_126 : decode cX5_load 126 = .ok (.putfield 109, 3) := by decide +kernel
theorem dX5_load_129 : decode cX5_load 129 = .ok (.aload_n 0, 1) := by decide +kernel
theorem dX5_load_130 : decode cX5_load 130 = .ok (.getfield 30, 3) := by decide +kernel
theorem dX5_load_133 : decode cX5_load 133 = .ok (.getfield 122, 3) := by decide +kernel
theorem dX5_load_136 : decode cX5_load 136 = .ok (.ireturn, 1) := by decide +kernel
set_option maxRecDepth 20000 in
theorem ggX5_choice_X5_isChoice : GoodIn wsX5_choice wsX5_isChoice := goodIn_r _ [8, 1, 9, 101, 102, 103, 104, 105, 106, 107, 108, 109, 110, 111, 112, 113] (by decide +kernel) (by decide +kernel)
set_option maxRecDepth 20000 in
theorem gX5_choice_X5_isChoice : GoodIn wsX5_choice (wsV RX5 128 RX5 yX5_isChoice wsX5_isChoice) := goodIn_app (goodIn_of _ (by decide +kernel)) ggX5_choice_X5_isChoice
set_option maxRecDepth 20000 in
theorem ggX5_choice_X4_weightUnder : GoodIn wsX5_choice wsX4_weightUnder := goodIn_r _ [14, 15, 16, 17, 13, 18, 19, 20, 109, 110, 111, 112, 113] (by decide +kernel) (by decide +kernel)
set_option maxRecDepth 20000 in
theorem gX5_choice_X4_weightUnder : GoodIn wsX5_choice (wsV RX5 131 RX4 yX4_weightUnder wsX4_weightUnder) := goodIn_app (goodIn_of _ (by decide +kernel)) ggX5_choice_X4_weightUnder
set_option maxRecDepth 20000 in
theorem ggX5_choice_X5_budget : GoodIn wsX5_choice wsX5_budget := goodIn_r _ [24, 1, 25, 101, 102, 103, 104, 105, 106, 107, 108, 109, 110, 111, 112, 113] (by decide +kernel) (by decide +kernel)
set_option maxRecDepth 20000 in
theorem gX5_choice_X5_budget : GoodIn wsX5_choice (wsV RX5 134 RX5 yX5_budget wsX5_budget) := goodIn_app (goodIn_of _ (by decide +kernel)) ggX5_choice_X5_budget
set_option maxRecDepth 20000 in
theorem ggX5_choice_X5_protectedWeight : GoodIn wsX5_choice wsX5_protectedWeight := goodIn_r _ [29, 1, 30, 31, 32, 13, 33, 19, 20, 10, 11, 12, 14, 15, 16, 17, 18, 101, 102, 103, 104, 105, 106, 107, 108, 109, 110, 111, 112, 113] (by decide +kernel) (by decide +kernel)
set_option maxRecDepth 20000 in
theorem gX5_choice_X5_protectedWeight : GoodIn wsX5_choice (wsV RX5 137 RX5 yX5_protectedWeight wsX5_protectedWeight) := goodIn_app (goodIn_of _ (by decide +kernel)) ggX5_choice_X5_protectedWeight
set_option maxRecDepth 20000 in
theorem ggX5_choice_X4_profitUnder : GoodIn wsX5_choice wsX4_profitUnder := goodIn_r _ [37, 15, 16, 17, 13, 18, 19, 20, 109, 110, 111, 112, 113] (by decide +kernel) (by decide +kernel)
set_option maxRecDepth 20000 in
theorem gX5_choice_X4_profitUnder : GoodIn wsX5_choice (wsV RX5 140 RX4 yX4_profitUnder wsX4_profitUnder) := goodIn_app (goodIn_of _ (by decide +kernel)) ggX5_choice_X4_profitUnder
set_option maxRecDepth 20000 in
theorem ggX5_choice_X5_worstProfitScenario : GoodIn wsX5_choice wsX5_worstProfitScenario := goodIn_r _ [41, 1, 21, 22, 23, 7, 24, 25, 30, 31, 32, 13, 33, 19, 20, 101, 102, 103, 104, 105, 106, 107, 108, 109, 110, 111, 112, 113] (by decide +kernel) (by decide +kernel)
set_option maxRecDepth 20000 in
theorem gX5_choice_X5_worstProfitScenario : GoodIn wsX5_choice (wsV RX5 144 RX5 yX5_worstProfitScenario wsX5_worstProfitScenario) := goodIn_app (goodIn_of _ (by decide +kernel)) ggX5_choice_X5_worstProfitScenario
set_option maxRecDepth 20000 in
theorem ggX5_choice_X5_prepare : GoodIn wsX5_choice wsX5_prepare := goodIn_r _ [45, 3, 46, 1, 21, 22, 23, 7, 24, 25, 47, 48, 49, 50, 51, 52, 53, 54, 55, 56, 57, 58, 59, 60, 61, 62, 63, 64, 65, 66, 67, 68, 69, 70, 71, 72, 73, 74, 75, 76, 77, 78, 79, 80, 81, 82, 83, 84, 85, 86, 13, 87, 88, 20, 19, 101, 102, 103, 104, 105, 106, 107, 108, 114, 115, 116, 117, 118, 119, 120, 121, 122, 123, 109, 110, 111, 112, 113] (by decide +kernel) (by decide +kernel)
set_option maxRecDepth 20000 in
theorem gX5_choice_X5_prepare : GoodIn wsX5_choice (wsV RX5 147 RX5 yX5_prepare wsX5_prepare) := goodIn_app (goodIn_of _ (by decide +kernel)) ggX5_choice_X5_prepare
set_option maxRecDepth 20000 in
theorem ggX5_choice_X0_allows : GoodIn wsX5_choice wsX0_allows := goodIn_r _ [92, 82, 114, 115, 116, 117, 118, 119, 120, 121, 122, 123] (by decide +kernel) (by decide +kernel)
set_option maxRecDepth 20000 in
theorem gX5_choice_X0_allows : GoodIn wsX5_choice (wsV RX5 150 RX0 yX0_allows wsX0_allows) := goodIn_app (goodIn_of _ (by decide +kernel)) ggX5_choice_X0_allows
set_option maxRecDepth 20000 in
theorem ggX5_choice_X5_capacity : GoodIn wsX5_choice wsX5_capacity := goodIn_r _ [96, 1, 25, 101, 102, 103, 104, 105, 106, 107, 108, 109, 110, 111, 112, 113] (by decide +kernel) (by decide +kernel)
set_option maxRecDepth 20000 in
theorem gX5_choice_X5_capacity : GoodIn wsX5_choice (wsV RX5 153 RX5 yX5_capacity wsX5_capacity) := goodIn_app (goodIn_of _ (by decide +kernel)) ggX5_choice_X5_capacity
set_option maxRecDepth 20000 in
theorem ggX5_choice_X4_worst : GoodIn wsX5_choice wsX4_worst := goodIn_r _ [33, 19, 20, 109, 110, 111, 112, 113] (by decide +kernel) (by decide +kernel)
set_option maxRecDepth 20000 in
theorem gX5_choice_X4_worst : GoodIn wsX5_choice (wsV RX5 157 RX4 yX4_worst wsX4_worst) := goodIn_app (goodIn_of _ (by decide +kernel)) ggX5_choice_X4_worst
set_option maxRecDepth 20000 in
theorem ggX5_choice_X5_greatestBudget : GoodIn wsX5_choice wsX5_greatestBudget := goodIn_r _ [100, 26, 27, 28, 7, 29, 1, 30, 31, 32, 13, 33, 19, 20, 10, 11, 12, 14, 15, 16, 17, 18, 93, 94, 95, 96, 25, 101, 102, 103, 104, 105, 106, 107, 108, 109, 110, 111, 112, 113] (by decide +kernel) (by decide +kernel)
set_option maxRecDepth 20000 in
theorem gX5_choice_X5_greatestBudget : GoodIn wsX5_choice (wsV RX5 161 RX5 yX5_greatestBudget wsX5_greatestBudget) := goodIn_app (goodIn_of _ (by decide +kernel)) ggX5_choice_X5_greatestBudget
theorem dX5_choice_0 : decode cX5_choice 0 = .ok (.aload_n 0, 1) := by decide +kernel
theorem dX5_choice_1 : decode cX5_choice 1 = .ok (.iload_n 1, 1) := by decide +kernel
theorem dX5_choice_2 : decode cX5_choice 2 = .ok (.invokevirtual 128, 3) := by decide +kernel
theorem dX5_choice_5 : decode cX5_choice 5 = .ok (.ifCond .ne 5, 3) := by decide +kernel
theorem dX5_choice_8 : decode cX5_choice 8 = .ok (.iconst (-1), 1) := by decide +kernel
theorem dX5_choice_9 : decode cX5_choice 9 = .ok (.ireturn, 1) := by decide +kernel
theorem dX5_choice_10 : decode cX5_choice 10 = .ok (.iload_n 2, 1) := by decide +kernel
theorem dX5_choice_11 : decode cX5_choice 11 = .ok (.tableswitch 171 0 8 #[49, 59, 70, 83, 100, 121, 144, 159, 165], 49) := by decide +kernel
theorem dX5_choice_60 : decode cX5_choice 60 = .ok (.aload_n 0, 1) := by decide +kernel
theorem dX5_choice_61 : decode cX5_choice 61 = .ok (.getfield 10, 3) := by decide +kernel
theorem dX5_choice_64 : decode cX5_choice 64 = .ok (.iload_n 1, 1) := by decide +kernel
theorem dX5_choice_65 : decode cX5_choice 65 = .ok (.iconst 0, 1) := by decide +kernel
theorem dX5_choice_66 : decode cX5_choice 66 = .ok (.invokevirtual 131, 3) := by decide +kernel
theorem dX5_choice_69 : decode cX5_choice 69 = .ok (.ireturn, 1) := by decide +kernel
theorem dX5_choice_70 : decode cX5_choice 70 = .ok (.aload_n 0, 1) := by decide +kernel
theorem dX5_choice_71 : decode cX5_choice 71 = .ok (.iload_n 1, 1) := by decide +kernel
theorem dX5_choice_72 : decode cX5_choice 72 = .ok (.aload_n 0, 1) := by decide +kernel
theorem dX5_choice_73 : decode cX5_choice 73 = .ok (.iconst 1, 1) := by decide +kernel
theorem dX5_choice_74 : decode cX5_choice 74 = .ok (.invokevirtual 134, 3) := by decide +kernel
theorem dX5_choice_77 : decode cX5_choice 77 = .ok (.invokevirtual 137, 3) := by decide +kernel
theorem dX5_choice_80 : decode cX5_choice 80 = .ok (.ireturn, 1) := by decide +kernel
theorem dX5_choice_81 : decode cX5_choice 81 = .ok (.aload_n 0, 1) := by decide +kernel
theorem dX5_choice_82 : decode cX5_choice 82 = .ok (.getfield 10, 3) := by decide +kernel
theorem dX5_choice_85 : decode cX5_choice 85 = .ok (.iload_n 1, 1) := by decide +kernel
theorem dX5_choice_86 : decode cX5_choice 86 = .ok (.iconst 0, 1) := by decide +kernel
theorem dX5_choice_87 : decode cX5_choice 87 = .ok (.invokevirtual 140, 3) := by decide +kernel
theorem dX5_choice_90 : decode cX5_choice 90 = .ok (.ldc 143, 2) := by decide +kernel
theorem dX5_choice_92 : decode cX5_choice 92 = .ok (.iadd, 1) := by decide +kernel
theorem dX5_choice_93 : decode cX5_choice 93 = .ok (.ireturn, 1) := by decide +kernel
theorem dX5_choice_94 : decode cX5_choice 94 = .ok (.aload_n 0, 1) := by decide +kernel
theorem dX5_choice_95 : decode cX5_choice 95 = .ok (.getfield 10, 3) := by decide +kernel
theorem dX5_choice_98 : decode cX5_choice 98 = .ok (.iload_n 1, 1) := by decide +kernel
theorem dX5_choice_99 : decode cX5_choice 99 = .ok (.aload_n 0, 1) := by decide +kernel
theorem dX5_choice_100 : decode cX5_choice 100 = .ok (.iload_n 1, 1) := by decide +kernel
theorem dX5_choice_101 : decode cX5_choice 101 = .ok (.invokevirtual 144, 3) := by decide +kernel
theorem dX5_choice_104 : decode cX5_choice 104 = .ok (.invokevirtual 140, 3) := by decide +kernel
theorem dX5_choice_107 : decode cX5_choice 107 = .ok (.ldc 143, 2) := by decide +kernel
theorem dX5_choice_109 : decode cX5_choice 109 = .ok (.iadd, 1) := by decide +kernel
theorem dX5_choice_110 : decode cX5_choice 110 = .ok (.ireturn, 1) := by decide +kernel
theorem dX5_choice_111 : decode cX5_choice 111 = .ok (.aload_n 0, 1) := by decide +kernel
theorem dX5_choice_112 : decode cX5_choice 112 = .ok (.invokevirtual 147, 3) := by decide +kernel
theorem dX5_choice_115 : decode cX5_choice 115 = .ok (.aload_n 0, 1) := by decide +kernel
theorem dX5_choice_116 : decode cX5_choice 116 = .ok (.getfield 37, 3) := by decide +kernel
theorem dX5_choice_119 : decode cX5_choice 119 = .ok (.iload_n 1, 1) := by decide +kernel
theorem dX5_choice_120 : decode cX5_choice 120 = .ok (.invokevirtual 150, 3) := by decide +kernel
theorem dX5_choice_123 : decode cX5_choice 123 = .ok (.ifCond .eq 7, 3) := by decide +kernel
theorem dX5_choice_126 : decode cX5_choice 126 = .ok (.iconst 1, 1) := by decide +kernel
theorem dX5_choice_127 : decode cX5_choice 127 = .ok (.goto 4, 3) := by decide +kernel
theorem dX5_choice_130 : decode cX5_choice 130 = .ok (.iconst 0, 1) := by decide +kernel
theorem dX5_choice_131 : decode cX5_choice 131 = .ok (.ireturn, 1) := by decide +kernel
theorem dX5_choice_132 : decode cX5_choice 132 = .ok (.aload_n 0, 1) := by decide +kernel
theorem dX5_choice_133 : decode cX5_choice 133 = .ok (.iload_n 1, 1) := by decide +kernel
theorem dX5_choice_134 : decode cX5_choice 134 = .ok (.aload_n 0, 1) := by decide +kernel
theorem dX5_choice_135 : decode cX5_choice 135 = .ok (.iconst 1, 1) := by decide +kernel
theorem dX5_choice_136 : decode cX5_choice 136 = .ok (.invokevirtual 134, 3) := by decide +kernel
theorem dX5_choice_139 : decode cX5_choice 139 = .ok (.invokevirtual 137, 3) := by decide +kernel
theorem dX5_choice_142 : decode cX5_choice 142 = .ok (.aload_n 0, 1) := by decide +kernel
theorem dX5_choice_143 : decode cX5_choice 143 = .ok (.invokevirtual 153, 3) := by decide +kernel
theorem dX5_choice_146 : decode cX5_choice 146 = .ok (.if_icmp .gt 7, 3) := by decide +kernel
theorem dX5_choice_149 : decode cX5_choice 149 = .ok (.iconst 1, 1) := by decide +kernel
theorem dX5_choice_150 : decode cX5_choice 150 = .ok (.goto 4, 3) := by decide +kernel
theorem dX5_choice_153 : decode cX5_choice 153 = .ok (.iconst 0, 1) := by decide +kernel
theorem dX5_choice_154 : decode cX5_choice 154 = .ok (.ireturn, 1) := by decide +kernel
theorem dX5_choice_155 : decode cX5_choice 155 = .ok (.aload_n 0, 1) := by decide +kernel
theorem dX5_choice_156 : decode cX5_choice 156 = .ok (.getfield 10, 3) := by decide +kernel
theorem dX5_choice_159 : decode cX5_choice 159 = .ok (.iload_n 1, 1) := by decide +kernel
theorem dX5_choice_160 : decode cX5_choice 160 = .ok (.iconst 2, 1) := by decide +kernel
theorem dX5_choice_161 : decode cX5_choice 161 = .ok (.aload_n 0, 1) := by decide +kernel
theorem dX5_choice_162 : decode cX5_choice 162 = .ok (.iconst 1, 1) := by decide +kernel
theorem dX5_choice_163 : decode cX5_choice 163 = .ok (.invokevirtual 134, 3) := by decide +kernel
theorem dX5_choice_166 : decode cX5_choice 166 = .ok (.invokevirtual 157, 3) := by decide +kernel
theorem dX5_choice_169 : decode cX5_choice 169 = .ok (.ireturn, 1) := by decide +kernel
theorem dX5_choice_170 : decode cX5_choice 170 = .ok (.aload_n 0, 1) := by decide +kernel
theorem dX5_choice_171 : decode cX5_choice 171 = .ok (.iload_n 1, 1) := by decide +kernel
theorem dX5_choice_172 : decode cX5_choice 172 = .ok (.invokevirtual 144, 3) := by decide +kernel
theorem dX5_choice_175 : decode cX5_choice 175 = .ok (.ireturn, 1) := by decide +kernel
theorem dX5_choice_176 : decode cX5_choice 176 = .ok (.aload_n 0, 1) := by decide +kernel
theorem dX5_choice_177 : decode cX5_choice 177 = .ok (.iload_n 1, 1) := by decide +kernel
theorem dX5_choice_178 : decode cX5_choice 178 = .ok (.invokevirtual 161, 3) := by decide +kernel
theorem dX5_choice_181 : decode cX5_choice 181 = .ok (.ireturn, 1) := by decide +kernel
theorem dX5_choice_182 : decode cX5_choice 182 = .ok (.bipush (-2), 2) := by decide +kernel
theorem dX5_choice_184 : decode cX5_choice 184 = .ok (.ireturn, 1) := by decide +kernel
set_option maxRecDepth 20000 in
theorem ggX5_weightIn_X5_isChoice : GoodIn wsX5_weightIn wsX5_isChoice := goodIn_r _ [6, 1, 7, 31, 32, 33, 34, 35, 36, 37, 38, 39, 40, 41, 42, 43] (by decide +kernel) (by decide +kernel)
set_option maxRecDepth 20000 in
theorem gX5_weightIn_X5_isChoice : GoodIn wsX5_weightIn (wsV RX5 128 RX5 yX5_isChoice wsX5_isChoice) := goodIn_app (goodIn_of _ (by decide +kernel)) ggX5_weightIn_X5_isChoice
set_option maxRecDepth 20000 in
theorem ggX5_weightIn_J6_bitCount_0f7a4 : GoodIn wsX5_weightIn wsJ6_bitCount_0f7a4 := goodIn_r _ [11, 12, 13, 14] (by decide +kernel) (by decide +kernel)
set_option maxRecDepth 20000 in
theorem gX5_weightIn_J6_bitCount_0f7a4 : GoodIn wsX5_weightIn (va_wsS RX5 164 yJ6_bitCount_0f7a4 wsJ6_bitCount_0f7a4) := goodIn_app (goodIn_of _ (by decide +kernel)) ggX5_weightIn_J6_bitCount_0f7a4
set_option maxRecDepth 20000 in
theorem ggX5_weightIn_X5_budget : GoodIn wsX5_weightIn wsX5_budget := goodIn_r _ [18, 1, 19, 31, 32, 33, 34, 35, 36, 37, 38, 39, 40, 41, 42, 43] (by decide +kernel) (by decide +kernel)
set_option maxRecDepth 20000 in
theorem gX5_weightIn_X5_budget : GoodIn wsX5_weightIn (wsV RX5 134 RX5 yX5_budget wsX5_budget) := goodIn_app (goodIn_of _ (by decide +kernel)) ggX5_weightIn_X5_budget
set_option maxRecDepth 20000 in
theorem ggX5_weightIn_X4_weightUnder : GoodIn wsX5_weightIn wsX4_weightUnder := goodIn_r _ [24, 25, 26, 27, 23, 28, 29, 30, 39, 40, 41, 42, 43] (by decide +kernel) (by decide +kernel)
set_option maxRecDepth 20000 in
theorem gX5_weightIn_X4_weightUnder : GoodIn wsX5_weightIn (wsV RX5 131 RX4 yX4_weightUnder wsX4_weightUnder) := goodIn_app (goodIn_of _ (by decide +kernel)) ggX5_weightIn_X4_weightUnder
theorem dX5_weightIn_0 : decode cX5_weightIn 0 = .ok (.aload_n 0, 1) := by decide +kernel
theorem dX5_weightIn_1 : decode cX5_weightIn 1 = .ok (.iload_n 1, 1) := by decide +kernel
theorem dX5_weightIn_2 : decode cX5_weightIn 2 = .ok (.invokevirtual 128, 3) := by decide +kernel
theorem dX5_weightIn_5 : decode cX5_weightIn 5 = .ok (.ifCond .eq 11, 3) := by decide +kernel
theorem dX5_weightIn_8 : decode cX5_weightIn 8 = .ok (.aload_n 0, 1) := by decide +kernel
theorem dX5_weightIn_9 : decode cX5_weightIn 9 = .ok (.iload_n 2, 1) := by decide +kernel
theorem dX5_weightIn_10 : decode cX5_weightIn 10 = .ok (.invokevirtual 128, 3) := by decide +kernel
theorem dX5_weightIn_13 : decode cX5_weightIn 13 = .ok (.ifCond .ne 5, 3) := by decide +kernel
theorem dX5_weightIn_16 : decode cX5_weightIn 16 = .ok (.iconst (-1), 1) := by decide +kernel
theorem dX5_weightIn_17 : decode cX5_weightIn 17 = .ok (.ireturn, 1) := by decide +kernel
theorem dX5_weightIn_18 : decode cX5_weightIn 18 = .ok (.iload_n 2, 1) := by decide +kernel
theorem dX5_weightIn_19 : decode cX5_weightIn 19 = .ok (.invokestatic 164, 3) := by decide +kernel
theorem dX5_weightIn_22 : decode cX5_weightIn 22 = .ok (.aload_n 0, 1) := by decide +kernel
theorem dX5_weightIn_23 : decode cX5_weightIn 23 = .ok (.iconst 1, 1) := by decide +kernel
theorem dX5_weightIn_24 : decode cX5_weightIn 24 = .ok (.invokevirtual 134, 3) := by decide +kernel
theorem dX5_weightIn_27 : decode cX5_weightIn 27 = .ok (.if_icmp .le 6, 3) := by decide +kernel
theorem dX5_weightIn_30 : decode cX5_weightIn 30 = .ok (.bipush (-5), 2) := by decide +kernel
theorem dX5_weightIn_32 : decode cX5_weightIn 32 = .ok (.ireturn, 1) := by decide +kernel
theorem dX5_weightIn_33 : decode cX5_weightIn 33 = .ok (.aload_n 0, 1) := by decide +kernel
theorem dX5_weightIn_34 : decode cX5_weightIn 34 = .ok (.getfield 10, 3) := by decide +kernel
theorem dX5_weightIn_37 : decode cX5_weightIn 37 = .ok (.iload_n 1, 1) := by decide +kernel
theorem dX5_weightIn_38 : decode cX5_weightIn 38 = .ok (.iload_n 2, 1) := by decide +kernel
theorem dX5_weightIn_39 : decode cX5_weightIn 39 = .ok (.invokevirtual 131, 3) := by decide +kernel
theorem dX5_weightIn_42 : decode cX5_weightIn 42 = .ok (.ireturn, 1) := by decide +kernel
set_option maxRecDepth 20000 in
theorem ggX5_best_X5_prepare : GoodIn wsX5_best wsX5_prepare := goodIn_r _ [7, 1, 8, 9, 10, 11, 12, 6, 13, 14, 15, 16, 17, 18, 19, 20, 21, 22, 23, 24, 25, 26, 27, 28, 29, 30, 31, 32, 33, 34, 35, 36, 37, 38, 39, 40, 41, 42, 43, 44, 45, 46, 47, 48, 49, 50, 51, 52, 53, 54, 55, 56, 57, 58, 59, 104, 105, 106, 107, 108, 109, 110, 111, 112, 113, 114, 115, 116, 117, 118, 119, 120, 121, 122, 123, 124, 125, 126] (by decide +kernel) (by decide +kernel)
set_option maxRecDepth 20000 in
theorem gX5_best_X5_prepare : GoodIn wsX5_best (wsV RX5 147 RX5 yX5_prepare wsX5_prepare) := goodIn_app (goodIn_of _ (by decide +kernel)) ggX5_best_X5_prepare
set_option maxRecDepth 20000 in
theorem ggX5_best_X5_capacity : GoodIn wsX5_best wsX5_capacity := goodIn_r _ [63, 9, 14, 104, 105, 106, 107, 108, 109, 110, 111, 122, 123, 124, 125, 126] (by decide +kernel) (by decide +kernel)
set_option maxRecDepth 20000 in
theorem gX5_best_X5_capacity : GoodIn wsX5_best (wsV RX5 153 RX5 yX5_capacity wsX5_capacity) := goodIn_app (goodIn_of _ (by decide +kernel)) ggX5_best_X5_capacity
set_option maxRecDepth 20000 in
theorem ggX5_best_X0_firstOfAll : GoodIn wsX5_best wsX0_firstOfAll := goodIn_r _ [67, 68, 69, 70, 71, 72, 73, 74, 18, 75, 22, 76, 77, 78, 79, 23, 80, 81, 82, 83, 50, 84, 85, 86, 87, 25, 112, 113, 114, 115, 116, 117, 118, 119, 120, 121] (by decide +kernel) (by decide +kernel)
set_option maxRecDepth 20000 in
theorem gX5_best_X0_firstOfAll : GoodIn wsX5_best (wsV RX5 169 RX0 yX0_firstOfAll wsX0_firstOfAll) := goodIn_app (goodIn_of _ (by decide +kernel)) ggX5_best_X0_firstOfAll
set_option maxRecDepth 20000 in
theorem ggX5_best_X0_shiftedProfit : GoodIn wsX5_best wsX0_shiftedProfit := goodIn_r _ [91, 25, 92, 112, 113, 114, 115, 116, 117, 118, 119, 120, 121] (by decide +kernel) (by decide +kernel)
set_option maxRecDepth 20000 in
theorem gX5_best_X0_shiftedProfit : GoodIn wsX5_best (wsV RX5 172 RX0 yX0_shiftedProfit wsX0_shiftedProfit) := goodIn_app (goodIn_of _ (by decide +kernel)) ggX5_best_X0_shiftedProfit
set_option maxRecDepth 20000 in
theorem ggX5_best_X0_fitting : GoodIn wsX5_best wsX0_fitting := goodIn_r _ [96, 22, 76, 77, 78, 18, 79, 23, 80, 81, 82, 83, 50, 112, 113, 114, 115, 116, 117, 118, 119, 120, 121] (by decide +kernel) (by decide +kernel)
set_option maxRecDepth 20000 in
theorem gX5_best_X0_fitting : GoodIn wsX5_best (wsV RX5 178 RX0 yX0_fitting wsX0_fitting) := goodIn_app (goodIn_of _ (by decide +kernel)) ggX5_best_X0_fitting
set_option maxRecDepth 20000 in
theorem ggX5_best_X5_amongBest : GoodIn wsX5_best wsX5_amongBest := goodIn_r _ [100, 1, 101, 102, 60, 61, 62, 6, 63, 9, 14, 103, 77, 78, 18, 79, 23, 80, 81, 82, 83, 50, 104, 105, 106, 107, 108, 109, 110, 111, 112, 113, 114, 115, 116, 117, 118, 119, 120, 121, 122, 123, 124, 125, 126] (by decide +kernel) (by decide +kernel)
set_option maxRecDepth 20000 in
theorem gX5_best_X5_amongBest : GoodIn wsX5_best (wsV RX5 181 RX5 yX5_amongBest wsX5_amongBest) := goodIn_app (goodIn_of _ (by decide +kernel)) ggX5_best_X5_amongBest
theorem dX5_best_0 : decode cX5_best 0 = .ok (.iload_n 1, 1) := by decide +kernel
theorem dX5_best_1 : decode cX5_best 1 = .ok (.ifCond .lt 9, 3) := by decide +kernel
theorem dX5_best_4 : decode cX5_best 4 = .ok (.iload_n 1, 1) := by decide +kernel
theorem dX5_best_5 : decode cX5_best 5 = .ok (.bipush 6, 2) := by decide +kernel
theorem dX5_best_7 : decode cX5_best 7 = .ok (.if_icmp .le 6, 3) := by decide +kernel
theorem dX5_best_10 : decode cX5_best 10 = .ok (.bipush (-2), 2) := by decide +kernel
theorem dX5_best_12 : decode cX5_best 12 = .ok (.ireturn, 1) := by decide +kernel
theorem dX5_best_13 : decode cX5_best 13 = .ok (.aload_n 0, 1) := by decide +kernel
theorem dX5_best_14 : decode cX5_best 14 = .ok (.invokevirtual 147, 3) := by decide +kernel
theorem dX5_best_17 : decode cX5_best 17 = .ok (.aload_n 0, 1) := by decide +kernel
theorem dX5_best_18 : decode cX5_best 18 = .ok (.getfield 37, 3) := by decide +kernel
theorem dX5_best_21 : decode cX5_best 21 = .ok (.aload_n 0, 1) := by decide +kernel
theorem dX5_best_22 : decode cX5_best 22 = .ok (.invokevirtual 153, 3) := by decide +kernel
theorem dX5_best_25 : decode cX5_best 25 = .ok (.invokevirtual 169, 3) := by decide +kernel
theorem dX5_best_28 : decode cX5_best 28 = .ok (.istore_n 2, 1) := by decide +kernel
theorem dX5_best_29 : decode cX5_best 29 = .ok (.iload_n 1, 1) := by decide +kernel
theorem dX5_best_30 : decode cX5_best 30 = .ok (.tableswitch 75 0 6 #[42, 44, 53, 75, 75, 75, 63], 42) := by decide +kernel
theorem dX5_best_72 : decode cX5_best 72 = .ok (.iload_n 2, 1) := by decide +kernel
theorem dX5_best_73 : decode cX5_best 73 = .ok (.ireturn, 1) := by decide +kernel
theorem dX5_best_74 : decode cX5_best 74 = .ok (.aload_n 0, 1) := by decide +kernel
theorem dX5_best_75 : decode cX5_best 75 = .ok (.getfield 37, 3) := by decide +kernel
theorem dX5_best_78 : decode cX5_best 78 = .ok (.iload_n 2, 1) := by decide +kernel
theorem dX5_best_79 : decode cX5_best 79 = .ok (.invokevirtual 172, 3) := by decide +kernel
theorem dX5_best_82 : decode cX5_best 82 = .ok (.ireturn, 1) := by decide +kernel
theorem dX5_best_83 : decode cX5_best 83 = .ok (.aload_n 0, 1) := by decide +kernel
theorem dX5_best_84 : decode cX5_best 84 = .ok (.getfield 37, 3) := by decide +kernel
theorem dX5_best_87 : decode cX5_best 87 = .ok (.getfield 175, 3) := by decide +kernel
theorem dX5_best_90 : decode cX5_best 90 = .ok (.iload_n 2, 1) := by decide +kernel
theorem dX5_best_91 : decode cX5_best 91 = .ok (.iaload, 1) := by decide +kernel
theorem dX5_best_92 : decode cX5_best 92 = .ok (.ireturn, 1) := by decide +kernel
theorem dX5_best_93 : decode cX5_best 93 = .ok (.aload_n 0, 1) := by decide +kernel
theorem dX5_best_94 : decode cX5_best 94 = .ok (.getfield 37, 3) := by decide +kernel
theorem dX5_best_97 : decode cX5_best 97 = .ok (.aload_n 0, 1) := by decide +kernel
theorem dX5_best_98 : decode cX5_best 98 = .ok (.invokevirtual 153, 3) := by decide +kernel
theorem dX5_best_101 : decode cX5_best 101 = .ok (.invokevirtual 178, 3) := by decide +kernel
theorem dX5_best_104 : decode cX5_best 104 = .ok (.ireturn, 1) := by decide +kernel
theorem dX5_best_105 : decode cX5_best 105 = .ok (.aload_n 0, 1) := by decide +kernel
theorem dX5_best_106 : decode cX5_best 106 = .ok (.iload_n 2, 1) := by decide +kernel
theorem dX5_best_107 : decode cX5_best 107 = .ok (.iload_n 1, 1) := by decide +kernel
theorem dX5_best_108 : decode cX5_best 108 = .ok (.invokevirtual 181, 3) := by decide +kernel
theorem dX5_best_111 : decode cX5_best 111 = .ok (.ireturn, 1) := by decide +kernel
set_option maxRecDepth 20000 in
theorem ggX5_bestWith_X5_isBudget : GoodIn wsX5_bestWith wsX5_isBudget := goodIn_r _ [7] (by decide +kernel) (by decide +kernel)
set_option maxRecDepth 20000 in
theorem gX5_bestWith_X5_isBudget : GoodIn wsX5_bestWith (va_wsS RX5 184 yX5_isBudget wsX5_isBudget) := goodIn_app (goodIn_of _ (by decide +kernel)) ggX5_bestWith_X5_isBudget
set_option maxRecDepth 20000 in
theorem ggX5_bestWith_X0_fill : GoodIn wsX5_bestWith wsX0_fill := goodIn_r _ [12, 13, 14, 15, 16, 17, 18, 19, 20, 21, 22, 11, 23, 24, 25, 26, 27, 28, 29, 30, 31, 32, 33, 34, 35, 36, 37, 6, 38, 39, 40, 41, 42, 43, 44, 45, 46, 47, 48, 49, 50, 51, 52, 100, 101, 102, 103, 104, 90, 91, 92, 93, 94, 95, 96, 97, 98, 99] (by decide +kernel) (by decide +kernel)
set_option maxRecDepth 20000 in
theorem gX5_bestWith_X0_fill : GoodIn wsX5_bestWith (wsV RX5 187 RX0 yX0_fill wsX0_fill) := goodIn_app (goodIn_of _ (by decide +kernel)) ggX5_bestWith_X0_fill
set_option maxRecDepth 20000 in
theorem ggX5_bestWith_X0_firstOfAll : GoodIn wsX5_bestWith wsX0_firstOfAll := goodIn_r _ [56, 57, 58, 59, 60, 61, 62, 63, 11, 64, 15, 65, 66, 67, 68, 16, 69, 70, 71, 72, 43, 73, 74, 75, 76, 18, 90, 91, 92, 93, 94, 95, 96, 97, 98, 99] (by decide +kernel) (by decide +kernel)
set_option maxRecDepth 20000 in
theorem gX5_bestWith_X0_firstOfAll : GoodIn wsX5_bestWith (wsV RX5 169 RX0 yX0_firstOfAll wsX0_firstOfAll) := goodIn_app (goodIn_of _ (by decide +kernel)) ggX5_bestWith_X0_firstOfAll
set_option maxRecDepth 20000 in
theorem ggX5_bestWith_X0_shiftedProfit : GoodIn wsX5_bestWith wsX0_shiftedProfit := goodIn_r _ [80, 18, 81, 90, 91, 92, 93, 94, 95, 96, 97, 98, 99] (by decide +kernel) (by decide +kernel)
set_option maxRecDepth 20000 in
theorem gX5_bestWith_X0_shiftedProfit : GoodIn wsX5_bestWith (wsV RX5 172 RX0 yX0_shiftedProfit wsX0_shiftedProfit) := goodIn_app (goodIn_of _ (by decide +kernel)) ggX5_bestWith_X0_shiftedProfit
theorem dX5_bestWith_0 : decode cX5_bestWith 0 = .ok (.iload_n 1, 1) := by decide +kernel
theorem dX5_bestWith_1 : decode cX5_bestWith 1 = .ok (.ifCond .lt 24, 3) := by decide +kernel
theorem dX5_bestWith_4 : decode cX5_bestWith 4 = .ok (.iload_n 1, 1) := by decide +kernel
theorem dX5_bestWith_5 : decode cX5_bestWith 5 = .ok (.sipush 9999, 3) := by decide +kernel
theorem dX5_bestWith_8 : decode cX5_bestWith 8 = .ok (.if_icmp .gt 17, 3) := by decide +kernel
theorem dX5_bestWith_11 : decode cX5_bestWith 11 = .ok (.iload_n 2, 1) := by decide +kernel
theorem dX5_bestWith_12 : decode cX5_bestWith 12 = .ok (.invokestatic 184, 3) := by decide +kernel
theorem dX5_bestWith_15 : decode cX5_bestWith 15 = .ok (.ifCond .eq 10, 3) := by decide +kernel
theorem dX5_bestWith_18 : decode cX5_bestWith 18 = .ok (.iload_n 3, 1) := by decide +kernel
theorem dX5_bestWith_19 : decode cX5_bestWith 19 = .ok (.invokestatic 184, 3) := by decide +kernel
theorem dX5_bestWith_22 : decode cX5_bestWith 22 = .ok (.ifCond .ne 6, 3) := by decide +kernel
theorem dX5_bestWith_25 : decode cX5_bestWith 25 = .ok (.bipush (-2), 2) := by decide +kernel
theorem dX5_bestWith_27 : decode cX5_bestWith 27 = .ok (.ireturn, 1) := by decide +kernel
theorem dX5_bestWith_28 : decode cX5_bestWith 28 = .ok (.aload_n 0, 1) := by decide +kernel
theorem dX5_bestWith_29 : decode cX5_bestWith 29 = .ok (.getfield 37, 3) := by decide +kernel
theorem dX5_bestWith_32 : decode cX5_bestWith 32 = .ok (.aload_n 0, 1) := by decide +kernel
theorem dX5_bestWith_33 : decode cX5_bestWith 33 = .ok (.getfield 10, 3) := by decide +kernel
theorem dX5_bestWith_36 : decode cX5_bestWith 36 = .ok (.iload_n 2, 1) := by decide +kernel
theorem dX5_bestWith_37 : decode cX5_bestWith 37 = .ok (.iload_n 3, 1) := by decide +kernel
theorem dX5_bestWith_38 : decode cX5_bestWith 38 = .ok (.invokevirtual 187, 3) := by decide +kernel
theorem dX5_bestWith_41 : decode cX5_bestWith 41 = .ok (.aload_n 0, 1) := by decide +kernel
theorem dX5_bestWith_42 : decode cX5_bestWith 42 = .ok (.getfield 37, 3) := by decide +kernel
theorem dX5_bestWith_45 : decode cX5_bestWith 45 = .ok (.iconst 0, 1) := by decide +kernel
theorem dX5_bestWith_46 : decode cX5_bestWith 46 = .ok (.putfield 191, 3) := by decide +kernel
theorem dX5_bestWith_49 : decode cX5_bestWith 49 = .ok (.aload_n 0, 1) := by decide +kernel
theorem dX5_bestWith_50 : decode cX5_bestWith 50 = .ok (.getfield 37, 3) := by decide +kernel
theorem dX5_bestWith_53 : decode cX5_bestWith 53 = .ok (.aload_n 0, 1) := by decide +kernel
theorem dX5_bestWith_54 : decode cX5_bestWith 54 = .ok (.getfield 37, 3) := by decide +kernel
theorem dX5_bestWith_57 : decode cX5_bestWith 57 = .ok (.iload_n 1, 1) := by decide +kernel
theorem dX5_bestWith_58 : decode cX5_bestWith 58 = .ok (.invokevirtual 169, 3) := by decide +kernel
theorem dX5_bestWith_61 : decode cX5_bestWith 61 = .ok (.invokevirtual 172, 3) := by decide +kernel
theorem dX5_bestWith_64 : decode cX5_bestWith 64 = .ok (.ireturn, 1) := by decide +kernel
set_option maxRecDepth 20000 in
theorem ggX5_leastCapacity_X5_prepare : GoodIn wsX5_leastCapacity wsX5_prepare := goodIn_r _ [9, 1, 10, 11, 12, 13, 14, 8, 15, 16, 17, 18, 19, 20, 21, 22, 23, 24, 25, 26, 27, 28, 29, 30, 31, 32, 33, 34, 35, 36, 37, 38, 39, 40, 41, 42, 43, 44, 45, 46, 47, 48, 49, 50, 51, 52, 53, 54, 55, 56, 57, 58, 59, 60, 61, 66, 67, 68, 69, 70, 71, 72, 73, 74, 75, 76, 77, 78, 79, 80, 81, 82, 83, 84, 85, 86, 87, 88] (by decide +kernel) (by decide +kernel)
set_option maxRecDepth 20000 in
theorem gX5_leastCapacity_X5_prepare : GoodIn wsX5_leastCapacity (wsV RX5 147 RX5 yX5_prepare wsX5_prepare) := goodIn_app (goodIn_of _ (by decide +kernel)) ggX5_leastCapacity_X5_prepare
set_option maxRecDepth 20000 in
theorem ggX5_leastCapacity_X0_allows : GoodIn wsX5_leastCapacity wsX0_allows := goodIn_r _ [65, 52, 74, 75, 76, 77, 78, 79, 80, 81, 82, 83] (by decide +kernel) (by decide +kernel)
set_option maxRecDepth 20000 in
theorem gX5_leastCapacity_X0_allows : GoodIn wsX5_leastCapacity (wsV RX5 150 RX0 yX0_allows wsX0_allows) := goodIn_app (goodIn_of _ (by decide +kernel)) ggX5_leastCapacity_X0_allows
theorem dX5_leastCapacity_0 : decode cX5_leastCapacity 0 = .ok (.iload_n 1, 1) := by decide +kernel
theorem dX5_leastCapacity_1 : decode cX5_leastCapacity 1 = .ok (.ifCond .lt 10, 3) := by decide +kernel
theorem dX5_leastCapacity_4 : decode cX5_leastCapacity 4 = .ok (.iload_n 1, 1) := by decide +kernel
theorem dX5_leastCapacity_5 : decode cX5_leastCapacity 5 = .ok (.sipush 12000, 3) := by decide +kernel
theorem dX5_leastCapacity_8 : decode cX5_leastCapacity 8 = .ok (.if_icmp .le 6, 3) := by decide +kernel
theorem dX5_leastCapacity_11 : decode cX5_leastCapacity 11 = .ok (.bipush (-2), 2) := by decide +kernel
theorem dX5_leastCapacity_13 : decode cX5_leastCapacity 13 = .ok (.ireturn, 1) := by decide +kernel
theorem dX5_leastCapacity_14 : decode cX5_leastCapacity 14 = .ok (.aload_n 0, 1) := by decide +kernel
theorem dX5_leastCapacity_15 : decode cX5_leastCapacity 15 = .ok (.invokevirtual 147, 3) := by decide +kernel
theorem dX5_leastCapacity_18 : decode cX5_leastCapacity 18 = .ok (.sipush 10000, 3) := by decide +kernel
theorem dX5_leastCapacity_21 : decode cX5_leastCapacity 21 = .ok (.istore_n 2, 1) := by decide +kernel
theorem dX5_leastCapacity_22 : decode cX5_leastCapacity 22 = .ok (.iconst 0, 1) := by decide +kernel
theorem dX5_leastCapacity_23 : decode cX5_leastCapacity 23 = .ok (.istore_n 3, 1) := by decide +kernel
theorem dX5_leastCapacity_24 : decode cX5_leastCapacity 24 = .ok (.iload_n 3, 1) := by decide +kernel
theorem dX5_leastCapacity_25 : decode cX5_leastCapacity 25 = .ok (.aload_n 0, 1) := by decide +kernel
theorem dX5_leastCapacity_26 : decode cX5_leastCapacity 26 = .ok (.getfield 37, 3) := by decide +kernel
theorem dX5_leastCapacity_29 : decode cX5_leastCapacity 29 = .ok (.getfield 195, 3) := by decide +kernel
theorem dX5_leastCapacity_32 : decode cX5_leastCapacity 32 = .ok (.if_icmp .ge 56, 3) := by decide +kernel
theorem dX5_leastCapacity_35 : decode cX5_leastCapacity 35 = .ok (.aload_n 0, 1) := by decide +kernel
theorem dX5_leastCapacity_36 : decode cX5_leastCapacity 36 = .ok (.getfield 37, 3) := by decide +kernel
theorem dX5_leastCapacity_39 : decode cX5_leastCapacity 39 = .ok (.getfield 198, 3) := by decide +kernel
theorem dX5_leastCapacity_42 : decode cX5_leastCapacity 42 = .ok (.iload_n 3, 1) := by decide +kernel
theorem dX5_leastCapacity_43 : decode cX5_leastCapacity 43 = .ok (.iaload, 1) := by decide +kernel
theorem dX5_leastCapacity_44 : decode cX5_leastCapacity 44 = .ok (.iload_n 1, 1) := by decide +kernel
theorem dX5_leastCapacity_45 : decode cX5_leastCapacity 45 = .ok (.if_icmp .lt 37, 3) := by decide +kernel
theorem dX5_leastCapacity_48 : decode cX5_leastCapacity 48 = .ok (.aload_n 0, 1) := by decide +kernel
theorem dX5_leastCapacity_49 : decode cX5_leastCapacity 49 = .ok (.getfield 37, 3) := by decide +kernel
theorem dX5_leastCapacity_52 : decode cX5_leastCapacity 52 = .ok (.getfield 175, 3) := by decide +kernel
theorem dX5_leastCapacity_55 : decode cX5_leastCapacity 55 = .ok (.iload_n 3, 1) := by decide +kernel
theorem dX5_leastCapacity_56 : decode cX5_leastCapacity 56 = .ok (.iaload, 1) := by decide +kernel
theorem dX5_leastCapacity_57 : decode cX5_leastCapacity 57 = .ok (.iload_n 2, 1) := by decide +kernel
theorem dX5_leastCapacity_58 : decode cX5_leastCapacity 58 = .ok (.if_icmp .ge 24, 3) := by decide +kernel
theorem dX5_leastCapacity_61 : decode cX5_leastCapacity 61 = .ok (.aload_n 0, 1) := by decide +kernel
theorem dX5_leastCapacity_62 : decode cX5_leastCapacity 62 = .ok (.getfield 37, 3) := by decide +kernel
theorem dX5_leastCapacity_65 : decode cX5_leastCapacity 65 = .ok (.iload_n 3, 1) := by decide +kernel
theorem dX5_leastCapacity_66 : decode cX5_leastCapacity 66 = .ok (.invokevirtual 150, 3) := by decide +kernel
theorem dX5_leastCapacity_69 : decode cX5_leastCapacity 69 = .ok (.ifCond .eq 13, 3) := by decide +kernel
theorem dX5_leastCapacity_72 : decode cX5_leastCapacity 72 = .ok (.aload_n 0, 1) := by decide +kernel
theorem dX5_leastCapacity_73 : decode cX5_leastCapacity 73 = .ok (.getfield 37, 3) := by decide +kernel
theorem dX5_leastCapacity_76 : decode cX5_leastCapacity 76 = .ok (.getfield 175, 3) := by decide +kernel
theorem dX5_leastCapacity_79 : decode cX5_leastCapacity 79 = .ok (.iload_n 3, 1) := by decide +kernel
theorem dX5_leastCapacity_80 : decode cX5_leastCapacity 80 = .ok (.iaload, 1) := by decide +kernel
theorem dX5_leastCapacity_81 : decode cX5_leastCapacity 81 = .ok (.istore_n 2, 1) := by decide +kernel
theorem dX5_leastCapacity_82 : decode cX5_leastCapacity 82 = .ok (.iinc 3 1, 3) := by decide +kernel
theorem dX5_leastCapacity_85 : decode cX5_leastCapacity 85 = .ok (.goto (-61), 3) := by decide +kernel
theorem dX5_leastCapacity_88 : decode cX5_leastCapacity 88 = .ok (.iload_n 2, 1) := by decide +kernel
theorem dX5_leastCapacity_89 : decode cX5_leastCapacity 89 = .ok (.sipush 9999, 3) := by decide +kernel
theorem dX5_leastCapacity_92 : decode cX5_leastCapacity 92 = .ok (.if_icmp .le 8, 3) := by decide +kernel
theorem dX5_leastCapacity_95 : decode cX5_leastCapacity 95 = .ok (.bipush (-6), 2) := by decide +kernel
theorem dX5_leastCapacity_97 : decode cX5_leastCapacity 97 = .ok (.goto 4, 3) := by decide +kernel
theorem dX5_leastCapacity_100 : decode cX5_leastCapacity 100 = .ok (.iload_n 2, 1) := by decide +kernel
theorem dX5_leastCapacity_101 : decode cX5_leastCapacity 101 = .ok (.ireturn, 1) := by decide +kernel
set_option maxRecDepth 20000 in
theorem ggX5_headroom_X5_exists : GoodIn wsX5_headroom wsX5_exists := goodIn_r _ [9, 2, 10, 106, 107, 108, 109, 110, 111, 112, 113, 114, 115, 116, 117, 118] (by decide +kernel) (by decide +kernel)
set_option maxRecDepth 20000 in
theorem gX5_headroom_X5_exists : GoodIn wsX5_headroom (wsV RX5 69 RX5 yX5_exists wsX5_exists) := goodIn_app (goodIn_of _ (by decide +kernel)) ggX5_headroom_X5_exists
set_option maxRecDepth 20000 in
theorem ggX5_headroom_X5_prepare : GoodIn wsX5_headroom wsX5_prepare := goodIn_r _ [14, 1, 4, 2, 15, 16, 17, 8, 18, 19, 20, 21, 22, 23, 24, 25, 26, 27, 28, 29, 30, 31, 32, 33, 34, 35, 36, 37, 38, 39, 40, 41, 42, 43, 44, 45, 46, 47, 48, 49, 50, 51, 52, 53, 54, 55, 56, 57, 58, 59, 60, 61, 62, 63, 64, 106, 107, 108, 109, 110, 111, 112, 113, 119, 120, 121, 122, 123, 124, 125, 126, 127, 128, 114, 115, 116, 117, 118] (by decide +kernel) (by decide +kernel)
set_option maxRecDepth 20000 in
theorem gX5_headroom_X5_prepare : GoodIn wsX5_headroom (wsV RX5 147 RX5 yX5_prepare wsX5_prepare) := goodIn_app (goodIn_of _ (by decide +kernel)) ggX5_headroom_X5_prepare
set_option maxRecDepth 20000 in
theorem ggX5_headroom_X5_capacity : GoodIn wsX5_headroom wsX5_capacity := goodIn_r _ [68, 2, 19, 106, 107, 108, 109, 110, 111, 112, 113, 114, 115, 116, 117, 118] (by decide +kernel) (by decide +kernel)
set_option maxRecDepth 20000 in
theorem gX5_headroom_X5_capacity : GoodIn wsX5_headroom (wsV RX5 153 RX5 yX5_capacity wsX5_capacity) := goodIn_app (goodIn_of _ (by decide +kernel)) ggX5_headroom_X5_capacity
set_option maxRecDepth 20000 in
theorem ggX5_headroom_X0_firstOfAll : GoodIn wsX5_headroom wsX0_firstOfAll := goodIn_r _ [72, 73, 74, 75, 76, 77, 78, 79, 23, 80, 27, 81, 82, 83, 84, 28, 85, 86, 87, 88, 55, 89, 90, 91, 92, 30, 119, 120, 121, 122, 123, 124, 125, 126, 127, 128] (by decide +kernel) (by decide +kernel)
set_option maxRecDepth 20000 in
theorem gX5_headroom_X0_firstOfAll : GoodIn wsX5_headroom (wsV RX5 169 RX0 yX0_firstOfAll wsX0_firstOfAll) := goodIn_app (goodIn_of _ (by decide +kernel)) ggX5_headroom_X0_firstOfAll
set_option maxRecDepth 20000 in
theorem ggX5_headroom_X5_staysBest : GoodIn wsX5_headroom wsX5_staysBest := goodIn_r _ [96, 1, 2, 15, 16, 17, 8, 18, 19, 97, 98, 99, 23, 100, 29, 101, 102, 103, 104, 105, 28, 32, 33, 34, 35, 36, 26, 37, 38, 39, 40, 41, 42, 43, 44, 45, 46, 47, 48, 65, 66, 67, 68, 69, 70, 71, 72, 73, 74, 75, 76, 77, 78, 79, 80, 27, 81, 82, 83, 84, 85, 86, 87, 88, 55, 89, 90, 91, 92, 30, 106, 107, 108, 109, 110, 111, 112, 113, 114, 115, 116, 117, 118, 119, 120, 121, 122, 123, 124, 125, 126, 127, 128] (by decide +kernel) (by decide +kernel)
set_option maxRecDepth 20000 in
theorem gX5_headroom_X5_staysBest : GoodIn wsX5_headroom (wsV RX5 201 RX5 yX5_staysBest wsX5_staysBest) := goodIn_app (goodIn_of _ (by decide +kernel)) ggX5_headroom_X5_staysBest
theorem dX5_headroom_0 : decode cX5_headroom 0 = .ok (.aload_n 0, 1) := by decide +kernel
theorem dX5_headroom_1 : decode cX5_headroom 1 = .ok (.iload_n 1, 1) := by decide +kernel
theorem dX5_headroom_2 : decode cX5_headroom 2 = .ok (.invokevirtual 69, 3) := by decide +kernel
theorem dX5_headroom_5 : decode cX5_headroom 5 = .ok (.ifCond .ne 5, 3) := by decide +kernel
theorem dX5_headroom_8 : decode cX5_headroom 8 = .ok (.iconst (-1), 1) := by decide +kernel
theorem dX5_headroom_9 : decode cX5_headroom 9 = .ok (.ireturn, 1) := by decide +kernel
theorem dX5_headroom_10 : decode cX5_headroom 10 = .ok (.aload_n 0, 1) := by decide +kernel
theorem dX5_headroom_11 : decode cX5_headroom 11 = .ok (.invokevirtual 147, 3) := by decide +kernel
theorem dX5_headroom_14 : decode cX5_headroom 14 = .ok (.aload_n 0, 1) := by decide +kernel
theorem dX5_headroom_15 : decode cX5_headroom 15 = .ok (.getfield 37, 3) := by decide +kernel
theorem dX5_headroom_18 : decode cX5_headroom 18 = .ok (.aload_n 0, 1) := by decide +kernel
theorem dX5_headroom_19 : decode cX5_headroom 19 = .ok (.invokevirtual 153, 3) := by decide +kernel
theorem dX5_headroom_22 : decode cX5_headroom 22 = .ok (.invokevirtual 169, 3) := by decide +kernel
theorem dX5_headroom_25 : decode cX5_headroom 25 = .ok (.istore_n 2, 1) := by decide +kernel
theorem dX5_headroom_26 : decode cX5_headroom 26 = .ok (.sipush 999, 3) := by decide +kernel
theorem dX5_headroom_29 : decode cX5_headroom 29 = .ok (.aload_n 0, 1) := by decide +kernel
theorem dX5_headroom_30 : decode cX5_headroom 30 = .ok (.getfield 10, 3) := by decide +kernel
theorem dX5_headroom_33 : decode cX5_headroom 33 = .ok (.getfield 81, 3) := by decide +kernel
theorem dX5_headroom_36 : decode cX5_headroom 36 = .ok (.iconst 2, 1) := by decide +kernel
theorem dX5_headroom_37 : decode cX5_headroom 37 = .ok (.aaload, 1) := by decide +kernel
theorem dX5_headroom_38 : decode cX5_headroom 38 = .ok (.iload_n 1, 1) := by decide +kernel
theorem dX5_headroom_39 : decode cX5_headroom 39 = .ok (.iaload, 1) := by decide +kernel
theorem dX5_headroom_40 : decode cX5_headroom 40 = .ok (.isub, 1) := by decide +kernel
theorem dX5_headroom_41 : decode cX5_headroom 41 = .ok (.istore_n 3, 1) := by decide +kernel
theorem dX5_headroom_42 : decode cX5_headroom 42 = .ok (.iload_n 2, 1) := by decide +kernel
theorem dX5_headroom_43 : decode cX5_headroom 43 = .ok (.iload_n 1, 1) := by decide +kernel
theorem dX5_headroom_44 : decode cX5_headroom 44 = .ok (.ishr, 1) := by decide +kernel
theorem dX5_headroom_45 : decode cX5_headroom 45 = .ok (.iconst 1, 1) := by decide +kernel
theorem dX5_headroom_46 : decode cX5_headroom 46 = .ok (.iand, 1) := by decide +kernel
theorem dX5_headroom_47 : decode cX5_headroom 47 = .ok (.ifCond .ne 5, 3) := by decide +kernel
theorem dX5_headroom_50 : decode cX5_headroom 50 = .ok (.iload_n 3, 1) := by decide +kernel
theorem dX5_headroom_51 : decode cX5_headroom 51 = .ok (.ireturn, 1) := by decide +kernel
theorem dX5_headroom_52 : decode cX5_headroom 52 = .ok (.iconst 0, 1) := by decide +kernel
theorem dX5_headroom_53 : decode cX5_headroom 53 = .ok (.istore 4, 2) := by decide +kernel
theorem dX5_headroom_55 : decode cX5_headroom 55 = .ok (.sipush 512, 3) := by decide +kernel
theorem dX5_headroom_58 : decode cX5_headroom 58 = .ok (.istore 5, 2) := by decide +kernel
theorem dX5_headroom_60 : decode cX5_headroom 60 = .ok (.iload 5, 2) := by decide +kernel
theorem dX5_headroom_62 : decode cX5_headroom 62 = .ok (.ifCond .le 42, 3) := by decide +kernel
theorem dX5_headroom_65 : decode cX5_headroom 65 = .ok (.iload 4, 2) := by decide +kernel
theorem dX5_headroom_67 : decode cX5_headroom 67 = .ok (.iload 5, 2) := by decide +kernel
theorem dX5_headroom_69 : decode cX5_headroom 69 = .ok (.iadd, 1) := by decide +kernel
theorem dX5_headroom_70 : decode cX5_headroom 70 = .ok (.iload_n 3, 1) := by decide +kernel
theorem dX5_headroom_71 : decode cX5_headroom 71 = .ok (.if_icmp .gt 24, 3) := by decide +kernel
theorem dX5_headroom_74 : decode cX5_headroom 74 = .ok (.aload_n 0, 1) := by decide +kernel
theorem dX5_headroom_75 : decode cX5_headroom 75 = .ok (.iload_n 2, 1) := by decide +kernel
theorem dX5_headroom_76 : decode cX5_headroom 76 = .ok (.iload_n 1, 1) := by decide +kernel
theorem dX5_headroom_77 : decode cX5_headroom 77 = .ok (.iload 4, 2) := by decide +kernel
theorem dX5_headroom_79 : decode cX5_headroom 79 = .ok (.iload 5, 2) := by decide +kernel
theorem dX5_headroom_81 : decode cX5_headroom 81 = .ok (.iadd, 1) := by decide +kernel
theorem dX5_headroom_82 : decode cX5_headroom 82 = .ok (.invokevirtual 201, 3) := by decide +kernel
theorem dX5_headroom_85 : decode cX5_headroom 85 = .ok (.ifCond .eq 10, 3) := by decide +kernel
theorem dX5_headroom_88 : decode cX5_headroom 88 = .ok (.iload 4, 2) := by decide +kernel
theorem dX5_headroom_90 : decode cX5_headroom 90 = .ok (.iload 5, 2) := by decide +kernel
theorem dX5_headroom_92 : decode cX5_headroom 92 = .ok (.iadd, 1) := by decide +kernel
theorem dX5_headroom_93 : decode cX5_headroom 93 = .ok (.istore 4, 2) := by decide +kernel
theorem dX5_headroom_95 : decode cX5_headroom 95 = .ok (.iload 5, 2) := by decide +kernel
theorem dX5_headroom_97 : decode cX5_headroom 97 = .ok (.iconst 2, 1) := by decide +kernel
theorem dX5_headroom_98 : decode cX5_headroom 98 = .ok (.idiv, 1) := by decide +kernel
theorem dX5_headroom_99 : decode cX5_headroom 99 = .ok (.istore 5, 2) := by decide +kernel
theorem dX5_headroom_101 : decode cX5_headroom 101 = .ok (.goto (-41), 3) := by decide +kernel
theorem dX5_headroom_104 : decode cX5_headroom 104 = .ok (.aload_n 0, 1) := by decide +kernel
theorem dX5_headroom_105 : decode cX5_headroom 105 = .ok (.getfield 37, 3) := by decide +kernel
theorem dX5_headroom_108 : decode cX5_headroom 108 = .ok (.iconst 0, 1) := by decide +kernel
theorem dX5_headroom_109 : decode cX5_headroom 109 = .ok (.putfield 191, 3) := by decide +kernel
theorem dX5_headroom_112 : decode cX5_headroom 112 = .ok (.iload 4, 2) := by decide +kernel
theorem dX5_headroom_114 : decode cX5_headroom 114 = .ok (.ireturn, 1) := by decide +kernel
set_option maxRecDepth 20000 in
theorem ggX5_greedy_X5_prepare : GoodIn wsX5_greedy wsX5_prepare := goodIn_r _ [8, 3, 9, 1, 10, 11, 12, 7, 13, 14, 15, 16, 17, 18, 19, 20, 21, 22, 23, 24, 25, 26, 27, 28, 29, 30, 31, 32, 33, 34, 35, 36, 37, 38, 39, 40, 41, 42, 43, 44, 45, 46, 47, 48, 49, 50, 51, 52, 53, 54, 55, 56, 57, 58, 59, 89, 90, 91, 92, 93, 94, 95, 96, 102, 103, 104, 105, 106, 107, 108, 109, 110, 111, 97, 98, 99, 100, 101] (by decide +kernel) (by decide +kernel)
set_option maxRecDepth 20000 in
theorem gX5_greedy_X5_prepare : GoodIn wsX5_greedy (wsV RX5 147 RX5 yX5_prepare wsX5_prepare) := goodIn_app (goodIn_of _ (by decide +kernel)) ggX5_greedy_X5_prepare
set_option maxRecDepth 20000 in
theorem ggX5_greedy_X4_mostFruitful : GoodIn wsX5_greedy wsX4_mostFruitful := goodIn_r _ [63, 59, 64, 65, 66, 67, 68, 69, 70, 55, 71, 58, 97, 98, 99, 100, 101] (by decide +kernel) (by decide +kernel)
set_option maxRecDepth 20000 in
theorem gX5_greedy_X4_mostFruitful : GoodIn wsX5_greedy (wsV RX5 205 RX4 yX4_mostFruitful wsX4_mostFruitful) := goodIn_app (goodIn_of _ (by decide +kernel)) ggX5_greedy_X4_mostFruitful
set_option maxRecDepth 20000 in
theorem ggX5_greedy_X5_capacity : GoodIn wsX5_greedy wsX5_capacity := goodIn_r _ [75, 1, 14, 89, 90, 91, 92, 93, 94, 95, 96, 97, 98, 99, 100, 101] (by decide +kernel) (by decide +kernel)
set_option maxRecDepth 20000 in
theorem gX5_greedy_X5_capacity : GoodIn wsX5_greedy (wsV RX5 153 RX5 yX5_capacity wsX5_capacity) := goodIn_app (goodIn_of _ (by decide +kernel)) ggX5_greedy_X5_capacity
set_option maxRecDepth 20000 in
theorem ggX5_greedy_X0_stands : GoodIn wsX5_greedy wsX0_stands := goodIn_r _ [79, 23, 80, 81, 82, 18, 83, 50, 102, 103, 104, 105, 106, 107, 108, 109, 110, 111] (by decide +kernel) (by decide +kernel)
set_option maxRecDepth 20000 in
theorem gX5_greedy_X0_stands : GoodIn wsX5_greedy (wsV RX5 208 RX0 yX0_stands wsX0_stands) := goodIn_app (goodIn_of _ (by decide +kernel)) ggX5_greedy_X0_stands
set_option maxRecDepth 20000 in
theorem ggX5_greedy_X0_shiftedProfit : GoodIn wsX5_greedy wsX0_shiftedProfit := goodIn_r _ [87, 25, 88, 102, 103, 104, 105, 106, 107, 108, 109, 110, 111] (by decide +kernel) (by decide +kernel)
set_option maxRecDepth 20000 in
theorem gX5_greedy_X0_shiftedProfit : GoodIn wsX5_greedy (wsV RX5 172 RX0 yX0_shiftedProfit wsX0_shiftedProfit) := goodIn_app (goodIn_of _ (by decide +kernel)) ggX5_greedy_X0_shiftedProfit
theorem dX5_greedy_0 : decode cX5_greedy 0 = .ok (.iload_n 1, 1) := by decide +kernel
theorem dX5_greedy_1 : decode cX5_greedy 1 = .ok (.ifCond .eq 11, 3) := by decide +kernel
theorem dX5_greedy_4 : decode cX5_greedy 4 = .ok (.iload_n 1, 1) := by decide +kernel
theorem dX5_greedy_5 : decode cX5_greedy 5 = .ok (.iconst 1, 1) := by decide +kernel
theorem dX5_greedy_6 : decode cX5_greedy 6 = .ok (.if_icmp .eq 6, 3) := by decide +kernel
theorem dX5_greedy_9 : decode cX5_greedy 9 = .ok (.bipush (-2), 2) := by decide +kernel
theorem dX5_greedy_11 : decode cX5_greedy 11 = .ok (.ireturn, 1) := by decide +kernel
theorem dX5_greedy_12 : decode cX5_greedy 12 = .ok (.aload_n 0, 1) := by decide +kernel
theorem dX5_greedy_13 : decode cX5_greedy 13 = .ok (.invokevirtual 147, 3) := by decide +kernel
theorem dX5_greedy_16 : decode cX5_greedy 16 = .ok (.iconst 0, 1) := by decide +kernel
theorem dX5_greedy_17 : decode cX5_greedy 17 = .ok (.istore_n 2, 1) := by decide +kernel
theorem dX5_greedy_18 : decode cX5_greedy 18 = .ok (.iconst 0, 1) := by decide +kernel
theorem dX5_greedy_19 : decode cX5_greedy 19 = .ok (.istore_n 3, 1) := by decide +kernel
theorem dX5_greedy_20 : decode cX5_greedy 20 = .ok (.iconst 0, 1) := by decide +kernel
theorem dX5_greedy_21 : decode cX5_greedy 21 = .ok (.istore 4, 2) := by decide +kernel
theorem dX5_greedy_23 : decode cX5_greedy 23 = .ok (.iload 4, 2) := by decide +kernel
theorem dX5_greedy_25 : decode cX5_greedy 25 = .ok (.aload_n 0, 1) := by decide +kernel
theorem dX5_greedy_26 : decode cX5_greedy 26 = .ok (.getfield 10, 3) := by decide +kernel
theorem dX5_greedy_29 : decode cX5_greedy 29 = .ok (.getfield 59, 3) := by decide +kernel
theorem dX5_greedy_32 : decode cX5_greedy 32 = .ok (.if_icmp .ge 53, 3) := by decide +kernel
theorem dX5_greedy_35 : decode cX5_greedy 35 = .ok (.aload_n 0, 1) := by decide +kernel
theorem dX5_greedy_36 : decode cX5_greedy 36 = .ok (.getfield 10, 3) := by decide +kernel
theorem dX5_greedy_39 : decode cX5_greedy 39 = .ok (.iload_n 3, 1) := by decide +kernel
theorem dX5_greedy_40 : decode cX5_greedy 40 = .ok (.invokevirtual 205, 3) := by decide +kernel
theorem dX5_greedy_43 : decode cX5_greedy 43 = .ok (.istore 5, 2) := by decide +kernel
theorem dX5_greedy_45 : decode cX5_greedy 45 = .ok (.iload_n 3, 1) := by decide +kernel
theorem dX5_greedy_46 : decode cX5_greedy 46 = .ok (.iconst 1, 1) := by decide +kernel
theorem dX5_greedy_47 : decode cX5_greedy 47 = .ok (.iload 5, 2) := by decide +kernel
theorem dX5_greedy_49 : decode cX5_greedy 49 = .ok (.ishl, 1) := by decide +kernel
theorem dX5_greedy_50 : decode cX5_greedy 50 = .ok (.ior, 1) := by decide +kernel
theorem dX5_greedy_51 : decode cX5_greedy 51 = .ok (.istore_n 3, 1) := by decide +kernel
theorem dX5_greedy_52 : decode cX5_greedy 52 = .ok (.aload_n 0, 1) := by decide +kernel
theorem dX5_greedy_53 : decode cX5_greedy 53 = .ok (.getfield 37, 3) := by decide +kernel
theorem dX5_greedy_56 : decode cX5_greedy 56 = .ok (.iload_n 2, 1) := by decide +kernel
theorem dX5_greedy_57 : decode cX5_greedy 57 = .ok (.iconst 1, 1) := by decide +kernel
theorem dX5_greedy_58 : decode cX5_greedy 58 = .ok (.iload 5, 2) := by decide +kernel
theorem dX5_greedy_60 : decode cX5_greedy 60 = .ok (.ishl, 1) := by decide +kernel
theorem dX5_greedy_61 : decode cX5_greedy 61 = .ok (.ior, 1) := by decide +kernel
theorem dX5_greedy_62 : decode cX5_greedy 62 = .ok (.aload_n 0, 1) := by decide +kernel
theorem dX5_greedy_63 : decode cX5_greedy 63 = .ok (.invokevirtual 153, 3) := by decide +kernel
theorem dX5_greedy_66 : decode cX5_greedy 66 = .ok (.invokevirtual 208, 3) := by decide +kernel
theorem dX5_greedy_69 : decode cX5_greedy 69 = .ok (.ifCond .eq 10, 3) := by decide +kernel
theorem dX5_greedy_72 : decode cX5_greedy 72 = .ok (.iload_n 2, 1) := by decide +kernel
theorem dX5_greedy_73 : decode cX5_greedy 73 = .ok (.iconst 1, 1) := by decide +kernel
theorem dX5_greedy_74 : decode cX5_greedy 74 = .ok (.iload 5, 2) := by decide +kernel
theorem dX5_greedy_76 : decode cX5_greedy 76 = .ok (.ishl, 1) := by decide +kernel
theorem dX5_greedy_77 : decode cX5_greedy 77 = .ok (.ior, 1) := by decide +kernel
theorem dX5_greedy_78 : decode cX5_greedy 78 = .ok (.istore_n 2, 1) := by decide +kernel
theorem dX5_greedy_79 : decode cX5_greedy 79 = .ok (.iinc 4 1, 3) := by decide +kernel
theorem dX5_greedy_82 : decode cX5_greedy 82 = .ok (.goto (-59), 3) := by decide +kernel
theorem dX5_greedy_85 : decode cX5_greedy 85 = .ok (.iload_n 1, 1) := by decide +kernel
theorem dX5_greedy_86 : decode cX5_greedy 86 = .ok (.ifCond .ne 7, 3) := by decide +kernel
theorem dX5_greedy_89 : decode cX5_greedy 89 = .ok (.iload_n 2, 1) := by decide +kernel
theorem dX5_greedy_90 : decode cX5_greedy 90 = .ok (.goto 11, 3) := by decide +kernel
theorem dX5_greedy_93 : decode cX5_greedy 93 = .ok (.aload_n 0, 1) := by decide +kernel
theorem dX5_greedy_94 : decode cX5_greedy 94 = .ok (.getfield 37, 3) := by decide +kernel
theorem dX5_greedy_97 : decode cX5_greedy 97 = .ok (.iload_n 2, 1) := by decide +kernel
theorem dX5_greedy_98 : decode cX5_greedy 98 = .ok (.invokevirtual 172, 3) := by decide +kernel
theorem dX5_greedy_101 : decode cX5_greedy 101 = .ok (.ireturn, 1) := by decide +kernel
set_option maxRecDepth 20000 in
theorem ggX5_forced_X5_isChoice : GoodIn wsX5_forced wsX5_isChoice := goodIn_r _ [6, 7, 8, 89, 90, 91, 92, 93, 94, 95, 96, 97, 98, 99, 100, 101] (by decide +kernel) (by decide +kernel)
set_option maxRecDepth 20000 in
theorem gX5_forced_X5_isChoice : GoodIn wsX5_forced (wsV RX5 128 RX5 yX5_isChoice wsX5_isChoice) := goodIn_app (goodIn_of _ (by decide +kernel)) ggX5_forced_X5_isChoice
set_option maxRecDepth 20000 in
theorem ggX5_forced_X5_prepare : GoodIn wsX5_forced wsX5_prepare := goodIn_r _ [12, 1, 13, 7, 14, 15, 16, 5, 17, 18, 19, 20, 21, 22, 23, 24, 25, 26, 27, 28, 29, 30, 31, 32, 33, 34, 35, 36, 37, 38, 39, 40, 41, 42, 43, 44, 45, 46, 47, 48, 49, 50, 51, 52, 53, 54, 55, 56, 57, 58, 59, 60, 61, 62, 63, 89, 90, 91, 92, 93, 94, 95, 96, 102, 103, 104, 105, 106, 107, 108, 109, 110, 111, 97, 98, 99, 100, 101] (by decide +kernel) (by decide +kernel)
set_option maxRecDepth 20000 in
theorem gX5_forced_X5_prepare : GoodIn wsX5_forced (wsV RX5 147 RX5 yX5_prepare wsX5_prepare) := goodIn_app (goodIn_of _ (by decide +kernel)) ggX5_forced_X5_prepare
set_option maxRecDepth 20000 in
theorem ggX5_forced_X5_capacity : GoodIn wsX5_forced wsX5_capacity := goodIn_r _ [67, 7, 18, 89, 90, 91, 92, 93, 94, 95, 96, 97, 98, 99, 100, 101] (by decide +kernel) (by decide +kernel)
set_option maxRecDepth 20000 in
theorem gX5_forced_X5_capacity : GoodIn wsX5_forced (wsV RX5 153 RX5 yX5_capacity wsX5_capacity) := goodIn_app (goodIn_of _ (by decide +kernel)) ggX5_forced_X5_capacity
set_option maxRecDepth 20000 in
theorem ggX5_forced_X0_first : GoodIn wsX5_forced wsX0_first := goodIn_r _ [71, 26, 72, 73, 74, 22, 75, 27, 76, 77, 78, 79, 54, 80, 81, 82, 83, 29, 102, 103, 104, 105, 106, 107, 108, 109, 110, 111] (by decide +kernel) (by decide +kernel)
set_option maxRecDepth 20000 in
theorem gX5_forced_X0_first : GoodIn wsX5_forced (wsV RX5 211 RX0 yX0_first wsX0_first) := goodIn_app (goodIn_of _ (by decide +kernel)) ggX5_forced_X0_first
set_option maxRecDepth 20000 in
theorem ggX5_forced_X0_shiftedProfit : GoodIn wsX5_forced wsX0_shiftedProfit := goodIn_r _ [87, 29, 88, 102, 103, 104, 105, 106, 107, 108, 109, 110, 111] (by decide +kernel) (by decide +kernel)
set_option maxRecDepth 20000 in
theorem gX5_forced_X0_shiftedProfit : GoodIn wsX5_forced (wsV RX5 172 RX0 yX0_shiftedProfit wsX0_shiftedProfit) := goodIn_app (goodIn_of _ (by decide +kernel)) ggX5_forced_X0_shiftedProfit
theorem dX5_forced_0 : decode cX5_forced 0 = .ok (.aload_n 0, 1) := by decide +kernel
theorem dX5_forced_1 : decode cX5_forced 1 = .ok (.iload_n 1, 1) := by decide +kernel
theorem dX5_forced_2 : decode cX5_forced 2 = .ok (.invokevirtual 128, 3) := by decide +kernel
theorem dX5_forced_5 : decode cX5_forced 5 = .ok (.ifCond .eq 11, 3) := by decide +kernel
theorem dX5_forced_8 : decode cX5_forced 8 = .ok (.aload_n 0, 1) := by decide +kernel
theorem dX5_forced_9 : decode cX5_forced 9 = .ok (.iload_n 2, 1) := by decide +kernel
theorem dX5_forced_10 : decode cX5_forced 10 = .ok (.invokevirtual 128, 3) := by decide +kernel
theorem dX5_forced_13 : decode cX5_forced 13 = .ok (.ifCond .ne 5, 3) := by decide +kernel
theorem dX5_forced_16 : decode cX5_forced 16 = .ok (.iconst (-1), 1) := by decide +kernel
theorem dX5_forced_17 : decode cX5_forced 17 = .ok (.ireturn, 1) := by decide +kernel
theorem dX5_forced_18 : decode cX5_forced 18 = .ok (.iload_n 3, 1) := by decide +kernel
theorem dX5_forced_19 : decode cX5_forced 19 = .ok (.ifCond .eq 11, 3) := by decide +kernel
theorem dX5_forced_22 : decode cX5_forced 22 = .ok (.iload_n 3, 1) := by decide +kernel
theorem dX5_forced_23 : decode cX5_forced 23 = .ok (.iconst 1, 1) := by decide +kernel
theorem dX5_forced_24 : decode cX5_forced 24 = .ok (.if_icmp .eq 6, 3) := by decide +kernel
theorem dX5_forced_27 : decode cX5_forced 27 = .ok (.bipush (-2), 2) := by decide +kernel
theorem dX5_forced_29 : decode cX5_forced 29 = .ok (.ireturn, 1) := by decide +kernel
theorem dX5_forced_30 : decode cX5_forced 30 = .ok (.iload_n 1, 1) := by decide +kernel
theorem dX5_forced_31 : decode cX5_forced 31 = .ok (.iload_n 2, 1) := by decide +kernel
theorem dX5_forced_32 : decode cX5_forced 32 = .ok (.iand, 1) := by decide +kernel
theorem dX5_forced_33 : decode cX5_forced 33 = .ok (.ifCond .eq 6, 3) := by decide +kernel
theorem dX5_forced_36 : decode cX5_forced 36 = .ok (.bipush (-5), 2) := by decide +kernel
theorem dX5_forced_38 : decode cX5_forced 38 = .ok (.ireturn, 1) := by decide +kernel
theorem dX5_forced_39 : decode cX5_forced 39 = .ok (.aload_n 0, 1) := by decide +kernel
theorem dX5_forced_40 : decode cX5_forced 40 = .ok (.invokevirtual 147, 3) := by decide +kernel
theorem dX5_forced_43 : decode cX5_forced 43 = .ok (.aload_n 0, 1) := by decide +kernel
theorem dX5_forced_44 : decode cX5_forced 44 = .ok (.getfield 37, 3) := by decide +kernel
theorem dX5_forced_47 : decode cX5_forced 47 = .ok (.aload_n 0, 1) := by decide +kernel
theorem dX5_forced_48 : decode cX5_forced 48 = .ok (.invokevirtual 153, 3) := by decide +kernel
theorem dX5_forced_51 : decode cX5_forced 51 = .ok (.iload_n 1, 1) := by decide +kernel
theorem dX5_forced_52 : decode cX5_forced 52 = .ok (.iload_n 2, 1) := by decide +kernel
theorem dX5_forced_53 : decode cX5_forced 53 = .ok (.invokevirtual 211, 3) := by decide +kernel
theorem dX5_forced_56 : decode cX5_forced 56 = .ok (.istore 4, 2) := by decide +kernel
theorem dX5_forced_58 : decode cX5_forced 58 = .ok (.iload_n 3, 1) := by decide +kernel
theorem dX5_forced_59 : decode cX5_forced 59 = .ok (.ifCond .ne 8, 3) := by decide +kernel
theorem dX5_forced_62 : decode cX5_forced 62 = .ok (.iload 4, 2) := by decide +kernel
theorem dX5_forced_64 : decode cX5_forced 64 = .ok (.goto 12, 3) := by decide +kernel
theorem dX5_forced_67 : decode cX5_forced 67 = .ok (.aload_n 0, 1) := by decide +kernel
theorem dX5_forced_68 : decode cX5_forced 68 = .ok (.getfield 37, 3) := by decide +kernel
theorem dX5_forced_71 : decode cX5_forced 71 = .ok (.iload 4, 2) := by decide +kernel
theorem dX5_forced_73 : decode cX5_forced 73 = .ok (.invokevirtual 172, 3) := by decide +kernel
theorem dX5_forced_76 : decode cX5_forced 76 = .ok (.ireturn, 1) := by decide +kernel
set_option maxRecDepth 20000 in
theorem ggX5_frontier_X5_prepare : GoodIn wsX5_frontier wsX5_prepare := goodIn_r _ [9, 2, 10, 11, 12, 13, 14, 8, 15, 16, 17, 18, 19, 20, 21, 22, 23, 24, 25, 26, 27, 28, 29, 30, 31, 32, 33, 34, 35, 36, 37, 38, 39, 40, 41, 42, 43, 44, 45, 46, 47, 48, 49, 50, 51, 52, 53, 54, 55, 56, 57, 58, 59, 60, 61, 105, 106, 107, 108, 109, 110, 111, 112, 115, 116, 117, 118, 119, 120, 121, 122, 123, 124, 125, 126, 127, 128, 129] (by decide +kernel) (by decide +kernel)
set_option maxRecDepth 20000 in
theorem gX5_frontier_X5_prepare : GoodIn wsX5_frontier (wsV RX5 147 RX5 yX5_prepare wsX5_prepare) := goodIn_app (goodIn_of _ (by decide +kernel)) ggX5_frontier_X5_prepare
set_option maxRecDepth 20000 in
theorem ggX5_frontier_X3_buildFrontier : GoodIn wsX5_frontier wsX3_buildFrontier := goodIn_r _ [66, 67, 68, 69, 70, 71, 72, 65, 73, 74, 75, 76, 77, 78, 79, 80, 81, 20, 82, 25, 83, 84, 85, 86, 52, 87, 88, 89, 90, 91, 92, 93, 94, 95, 115, 116, 117, 118, 119, 120, 121, 122, 123, 124, 113, 114] (by decide +kernel) (by decide +kernel)
set_option maxRecDepth 20000 in
theorem gX5_frontier_X3_buildFrontier : GoodIn wsX5_frontier (wsV RX5 214 RX3 yX3_buildFrontier wsX3_buildFrontier) := goodIn_app (goodIn_of _ (by decide +kernel)) ggX5_frontier_X3_buildFrontier
set_option maxRecDepth 20000 in
theorem ggX5_frontier_X3_stepAt : GoodIn wsX5_frontier wsX3_stepAt := goodIn_r _ [99, 95, 78, 113, 114] (by decide +kernel) (by decide +kernel)
set_option maxRecDepth 20000 in
theorem gX5_frontier_X3_stepAt : GoodIn wsX5_frontier (wsV RX5 219 RX3 yX3_stepAt wsX3_stepAt) := goodIn_app (goodIn_of _ (by decide +kernel)) ggX5_frontier_X3_stepAt
set_option maxRecDepth 20000 in
theorem ggX5_frontier_X0_shiftedProfit : GoodIn wsX5_frontier wsX0_shiftedProfit := goodIn_r _ [103, 27, 104, 115, 116, 117, 118, 119, 120, 121, 122, 123, 124] (by decide +kernel) (by decide +kernel)
set_option maxRecDepth 20000 in
theorem gX5_frontier_X0_shiftedProfit : GoodIn wsX5_frontier (wsV RX5 172 RX0 yX0_shiftedProfit wsX0_shiftedProfit) := goodIn_app (goodIn_of _ (by decide +kernel)) ggX5_frontier_X0_shiftedProfit
theorem dX5_frontier_0 : decode cX5_frontier 0 = .ok (.iload_n 2, 1) := by decide +kernel
theorem dX5_frontier_1 : decode cX5_frontier 1 = .ok (.ifCond .lt 8, 3) := by decide +kernel
theorem dX5_frontier_4 : decode cX5_frontier 4 = .ok (.iload_n 2, 1) := by decide +kernel
theorem dX5_frontier_5 : decode cX5_frontier 5 = .ok (.iconst 2, 1) := by decide +kernel
theorem dX5_frontier_6 : decode cX5_frontier 6 = .ok (.if_icmp .le 6, 3) := by decide +kernel
theorem dX5_frontier_9 : decode cX5_frontier 9 = .ok (.bipush (-2), 2) := by decide +kernel
theorem dX5_frontier_11 : decode cX5_frontier 11 = .ok (.ireturn, 1) := by decide +kernel
theorem dX5_frontier_12 : decode cX5_frontier 12 = .ok (.aload_n 0, 1) := by decide +kernel
theorem dX5_frontier_13 : decode cX5_frontier 13 = .ok (.invokevirtual 147, 3) := by decide +kernel
theorem dX5_frontier_16 : decode cX5_frontier 16 = .ok (.aload_n 0, 1) := by decide +kernel
theorem dX5_frontier_17 : decode cX5_frontier 17 = .ok (.getfield 44, 3) := by decide +kernel
theorem dX5_frontier_20 : decode cX5_frontier 20 = .ok (.aload_n 0, 1) := by decide +kernel
theorem dX5_frontier_21 : decode cX5_frontier 21 = .ok (.getfield 37, 3) := by decide +kernel
theorem dX5_frontier_24 : decode cX5_frontier 24 = .ok (.invokevirtual 214, 3) := by decide +kernel
theorem dX5_frontier_27 : decode cX5_frontier 27 = .ok (.iload_n 1, 1) := by decide +kernel
theorem dX5_frontier_28 : decode cX5_frontier 28 = .ok (.iconst (-1), 1) := by decide +kernel
theorem dX5_frontier_29 : decode cX5_frontier 29 = .ok (.if_icmp .ne 11, 3) := by decide +kernel
theorem dX5_frontier_32 : decode cX5_frontier 32 = .ok (.aload_n 0, 1) := by decide +kernel
theorem dX5_frontier_33 : decode cX5_frontier 33 = .ok (.getfield 44, 3) := by decide +kernel
theorem dX5_frontier_36 : decode cX5_frontier 36 = .ok (.getfield 218, 3) := by decide +kernel
theorem dX5_frontier_39 : decode cX5_frontier 39 = .ok (.ireturn, 1) := by decide +kernel
theorem dX5_frontier_40 : decode cX5_frontier 40 = .ok (.aload_n 0, 1) := by decide +kernel
theorem dX5_frontier_41 : decode cX5_frontier 41 = .ok (.getfield 44, 3) := by decide +kernel
theorem dX5_frontier_44 : decode cX5_frontier 44 = .ok (.iload_n 1, 1) := by decide +kernel
theorem dX5_frontier_45 : decode cX5_frontier 45 = .ok (.invokevirtual 219, 3) := by decide +kernel
theorem dX5_frontier_48 : decode cX5_frontier 48 = .ok (.istore_n 3, 1) := by decide +kernel
theorem dX5_frontier_49 : decode cX5_frontier 49 = .ok (.iload_n 3, 1) := by decide +kernel
theorem dX5_frontier_50 : decode cX5_frontier 50 = .ok (.ifCond .lt 8, 3) := by decide +kernel
theorem dX5_frontier_53 : decode cX5_frontier 53 = .ok (.iload_n 2, 1) := by decide +kernel
theorem dX5_frontier_54 : decode cX5_frontier 54 = .ok (.iconst 2, 1) := by decide +kernel
theorem dX5_frontier_55 : decode cX5_frontier 55 = .ok (.if_icmp .ne 5, 3) := by decide +kernel
theorem dX5_frontier_58 : decode cX5_frontier 58 = .ok (.iload_n 3, 1) := by decide +kernel
theorem dX5_frontier_59 : decode cX5_frontier 59 = .ok (.ireturn, 1) := by decide +kernel
theorem dX5_frontier_60 : decode cX5_frontier 60 = .ok (.iload_n 2, 1) := by decide +kernel
theorem dX5_frontier_61 : decode cX5_frontier 61 = .ok (.ifCond .ne 15, 3) := by decide +kernel
theorem dX5_frontier_64 : decode cX5_frontier 64 = .ok (.aload_n 0, 1) := by decide +kernel
theorem dX5_frontier_65 : decode cX5_frontier 65 = .ok (.getfield 37, 3) := by decide +kernel
theorem dX5_frontier_68 : decode cX5_frontier 68 = .ok (.getfield 175, 3) := by decide +kernel
theorem dX5_frontier_71 : decode cX5_frontier 71 = .ok (.iload_n 3, 1) := by decide +kernel
theorem dX5_frontier_72 : decode cX5_frontier 72 = .ok (.iaload, 1) := by decide +kernel
theorem dX5_frontier_73 : decode cX5_frontier 73 = .ok (.goto 11, 3) := by decide +kernel
theorem dX5_frontier_76 : decode cX5_frontier 76 = .ok (.aload_n 0, 1) := by decide +kernel
theorem dX5_frontier_77 : decode cX5_frontier 77 = .ok (.getfield 37, 3) := by decide +kernel
theorem dX5_frontier_80 : decode cX5_frontier 80 = .ok (.iload_n 3, 1) := by decide +kernel
theorem dX5_frontier_81 : decode cX5_frontier 81 = .ok (.invokevirtual 172, 3) := by decide +kernel
theorem dX5_frontier_84 : decode cX5_frontier 84 = .ok (.ireturn, 1) := by decide +kernel
set_option maxRecDepth 20000 in
theorem ggX5_improve_X5_isChoice : GoodIn wsX5_improve wsX5_isChoice := goodIn_r _ [6, 7, 8, 85, 86, 87, 88, 89, 90, 91, 92, 93, 94, 95, 96, 97] (by decide +kernel) (by decide +kernel)
set_option maxRecDepth 20000 in
theorem gX5_improve_X5_isChoice : GoodIn wsX5_improve (wsV RX5 128 RX5 yX5_isChoice wsX5_isChoice) := goodIn_app (goodIn_of _ (by decide +kernel)) ggX5_improve_X5_isChoice
set_option maxRecDepth 20000 in
theorem ggX5_improve_X5_prepare : GoodIn wsX5_improve wsX5_prepare := goodIn_r _ [12, 1, 13, 7, 14, 15, 16, 5, 17, 18, 19, 20, 21, 22, 23, 24, 25, 26, 27, 28, 29, 30, 31, 32, 33, 34, 35, 36, 37, 38, 39, 40, 41, 42, 43, 44, 45, 46, 47, 48, 49, 50, 51, 52, 53, 54, 55, 56, 57, 58, 59, 60, 61, 62, 63, 85, 86, 87, 88, 89, 90, 91, 92, 98, 99, 100, 101, 102, 103, 104, 105, 106, 107, 93, 94, 95, 96, 97] (by decide +kernel) (by decide +kernel)
set_option maxRecDepth 20000 in
theorem gX5_improve_X5_prepare : GoodIn wsX5_improve (wsV RX5 147 RX5 yX5_prepare wsX5_prepare) := goodIn_app (goodIn_of _ (by decide +kernel)) ggX5_improve_X5_prepare
set_option maxRecDepth 20000 in
theorem ggX5_improve_X5_capacity : GoodIn wsX5_improve wsX5_capacity := goodIn_r _ [67, 7, 18, 85, 86, 87, 88, 89, 90, 91, 92, 93, 94, 95, 96, 97] (by decide +kernel) (by decide +kernel)
set_option maxRecDepth 20000 in
theorem gX5_improve_X5_capacity : GoodIn wsX5_improve (wsV RX5 153 RX5 yX5_capacity wsX5_capacity) := goodIn_app (goodIn_of _ (by decide +kernel)) ggX5_improve_X5_capacity
set_option maxRecDepth 20000 in
theorem ggX5_improve_X0_stands : GoodIn wsX5_improve wsX0_stands := goodIn_r _ [71, 27, 72, 73, 74, 22, 75, 54, 98, 99, 100, 101, 102, 103, 104, 105, 106, 107] (by decide +kernel) (by decide +kernel)
set_option maxRecDepth 20000 in
theorem gX5_improve_X0_stands : GoodIn wsX5_improve (wsV RX5 208 RX0 yX0_stands wsX0_stands) := goodIn_app (goodIn_of _ (by decide +kernel)) ggX5_improve_X0_stands
set_option maxRecDepth 20000 in
theorem ggX5_improve_X0_firstNear : GoodIn wsX5_improve wsX0_firstNear := goodIn_r _ [79, 25, 80, 69, 70, 22, 71, 27, 72, 73, 74, 75, 54, 81, 82, 83, 84, 29, 98, 99, 100, 101, 102, 103, 104, 105, 106, 107] (by decide +kernel) (by decide +kernel)
set_option maxRecDepth 20000 in
theorem gX5_improve_X0_firstNear : GoodIn wsX5_improve (wsV RX5 222 RX0 yX0_firstNear wsX0_firstNear) := goodIn_app (goodIn_of _ (by decide +kernel)) ggX5_improve_X0_firstNear
theorem dX5_improve_0 : decode cX5_improve 0 = .ok (.aload_n 0, 1) := by decide +kernel
theorem dX5_improve_1 : decode cX5_improve 1 = .ok (.iload_n 1, 1) := by decide +kernel
theorem dX5_improve_2 : decode cX5_improve 2 = .ok (.invokevirtual 128, 3) := by decide +kernel
theorem dX5_improve_5 : decode cX5_improve 5 = .ok (.ifCond .ne 5, 3) := by decide +kernel
theorem dX5_improve_8 : decode cX5_improve 8 = .ok (.iconst (-1), 1) := by decide +kernel
theorem dX5_improve_9 : decode cX5_improve 9 = .ok (.ireturn, 1) := by decide +kernel
theorem dX5_improve_10 : decode cX5_improve 10 = .ok (.iload_n 2, 1) := by decide +kernel
theorem dX5_improve_11 : decode cX5_improve 11 = .ok (.ifCond .eq 11, 3) := by decide +kernel
theorem dX5_improve_14 : decode cX5_improve 14 = .ok (.iload_n 2, 1) := by decide +kernel
theorem dX5_improve_15 : decode cX5_improve 15 = .ok (.iconst 1, 1) := by decide +kernel
theorem dX5_improve_16 : decode cX5_improve 16 = .ok (.if_icmp .eq 6, 3) := by decide +kernel
theorem dX5_improve_19 : decode cX5_improve 19 = .ok (.bipush (-2), 2) := by decide +kernel
theorem dX5_improve_21 : decode cX5_improve 21 = .ok (.ireturn, 1) := by decide +kernel
theorem dX5_improve_22 : decode cX5_improve 22 = .ok (.aload_n 0, 1) := by decide +kernel
theorem dX5_improve_23 : decode cX5_improve 23 = .ok (.invokevirtual 147, 3) := by decide +kernel
theorem dX5_improve_26 : decode cX5_improve 26 = .ok (.aload_n 0, 1) := by decide +kernel
theorem dX5_improve_27 : decode cX5_improve 27 = .ok (.getfield 37, 3) := by decide +kernel
theorem dX5_improve_30 : decode cX5_improve 30 = .ok (.iload_n 1, 1) := by decide +kernel
theorem dX5_improve_31 : decode cX5_improve 31 = .ok (.aload_n 0, 1) := by decide +kernel
theorem dX5_improve_32 : decode cX5_improve 32 = .ok (.invokevirtual 153, 3) := by decide +kernel
theorem dX5_improve_35 : decode cX5_improve 35 = .ok (.invokevirtual 208, 3) := by decide +kernel
theorem dX5_improve_38 : decode cX5_improve 38 = .ok (.ifCond .ne 6, 3) := by decide +kernel
theorem dX5_improve_41 : decode cX5_improve 41 = .ok (.bipush (-5), 2) := by decide +kernel
theorem dX5_improve_43 : decode cX5_improve 43 = .ok (.ireturn, 1) := by decide +kernel
theorem dX5_improve_44 : decode cX5_improve 44 = .ok (.iload_n 1, 1) := by decide +kernel
theorem dX5_improve_45 : decode cX5_improve 45 = .ok (.istore_n 3, 1) := by decide +kernel
theorem dX5_improve_46 : decode cX5_improve 46 = .ok (.iconst 0, 1) := by decide +kernel
theorem dX5_improve_47 : decode cX5_improve 47 = .ok (.istore 4, 2) := by decide +kernel
theorem dX5_improve_49 : decode cX5_improve 49 = .ok (.iconst 0, 1) := by decide +kernel
theorem dX5_improve_50 : decode cX5_improve 50 = .ok (.istore 5, 2) := by decide +kernel
theorem dX5_improve_52 : decode cX5_improve 52 = .ok (.iload 5, 2) := by decide +kernel
theorem dX5_improve_54 : decode cX5_improve 54 = .ok (.sipush 4096, 3) := by decide +kernel
theorem dX5_improve_57 : decode cX5_improve 57 = .ok (.if_icmp .ge 38, 3) := by decide +kernel
theorem dX5_improve_60 : decode cX5_improve 60 = .ok (.aload_n 0, 1) := by decide +kernel
theorem dX5_improve_61 : decode cX5_improve 61 = .ok (.getfield 37, 3) := by decide +kernel
theorem dX5_improve_64 : decode cX5_improve 64 = .ok (.iload_n 3, 1) := by decide +kernel
theorem dX5_improve_65 : decode cX5_improve 65 = .ok (.aload_n 0, 1) := by decide +kernel
theorem dX5_improve_66 : decode cX5_improve 66 = .ok (.invokevirtual 153, 3) := by decide +kernel
theorem dX5_improve_69 : decode cX5_improve 69 = .ok (.invokevirtual 222, 3) := by decide +kernel
theorem dX5_improve_72 : decode cX5_improve 72 = .ok (.istore 6, 2) := by decide +kernel
theorem dX5_improve_74 : decode cX5_improve 74 = .ok (.iload 6, 2) := by decide +kernel
theorem dX5_improve_76 : decode cX5_improve 76 = .ok (.iload_n 3, 1) := by decide +kernel
theorem dX5_improve_77 : decode cX5_improve 77 = .ok (.if_icmp .ne 6, 3) := by decide +kernel
theorem dX5_improve_80 : decode cX5_improve 80 = .ok (.goto 15, 3) := by decide +kernel
theorem dX5_improve_83 : decode cX5_improve 83 = .ok (.iload 6, 2) := by decide +kernel
theorem dX5_improve_85 : decode cX5_improve 85 = .ok (.istore_n 3, 1) := by decide +kernel
theorem dX5_improve_86 : decode cX5_improve 86 = .ok (.iinc 4 1, 3) := by decide +kernel
theorem dX5_improve_89 : decode cX5_improve 89 = .ok (.iinc 5 1, 3) := by decide +kernel
theorem dX5_improve_92 : decode cX5_improve 92 = .ok (.goto (-40), 3) := by decide +kernel
theorem dX5_improve_95 : decode cX5_improve 95 = .ok (.iload_n 2, 1) := by decide +kernel
theorem dX5_improve_96 : decode cX5_improve 96 = .ok (.ifCond .ne 7, 3) := by decide +kernel
theorem dX5_improve_99 : decode cX5_improve 99 = .ok (.iload_n 3, 1) := by decide +kernel
theorem dX5_improve_100 : decode cX5_improve 100 = .ok (.goto 5, 3) := by decide +kernel
theorem dX5_improve_103 : decode cX5_improve 103 = .ok (.iload 4, 2) := by decide +kernel
theorem dX5_improve_105 : decode cX5_improve 105 = .ok (.ireturn, 1) := by decide +kernel
set_option maxRecDepth 20000 in
theorem ggX5_list_X5_isLevel : GoodIn wsX5_list wsX5_isLevel := goodIn_r _ [8, 9, 10, 99, 100, 101, 102, 103, 104, 105, 106, 109, 110, 111, 112, 113] (by decide +kernel) (by decide +kernel)
set_option maxRecDepth 20000 in
theorem gX5_list_X5_isLevel : GoodIn wsX5_list (wsV RX5 225 RX5 yX5_isLevel wsX5_isLevel) := goodIn_app (goodIn_of _ (by decide +kernel)) ggX5_list_X5_isLevel
set_option maxRecDepth 20000 in
theorem ggX5_list_X5_prepare : GoodIn wsX5_list wsX5_prepare := goodIn_r _ [14, 2, 15, 9, 16, 17, 18, 7, 19, 20, 21, 22, 23, 24, 25, 26, 27, 28, 29, 30, 31, 32, 33, 34, 35, 36, 37, 38, 39, 40, 41, 42, 43, 44, 45, 46, 47, 48, 49, 50, 51, 52, 53, 54, 55, 56, 57, 58, 59, 60, 61, 62, 63, 64, 65, 99, 100, 101, 102, 103, 104, 105, 106, 114, 115, 116, 117, 118, 119, 120, 121, 122, 123, 109, 110, 111, 112, 113] (by decide +kernel) (by decide +kernel)
set_option maxRecDepth 20000 in
theorem gX5_list_X5_prepare : GoodIn wsX5_list (wsV RX5 147 RX5 yX5_prepare wsX5_prepare) := goodIn_app (goodIn_of _ (by decide +kernel)) ggX5_list_X5_prepare
set_option maxRecDepth 20000 in
theorem ggX5_list_X5_capacity : GoodIn wsX5_list wsX5_capacity := goodIn_r _ [69, 9, 20, 99, 100, 101, 102, 103, 104, 105, 106, 109, 110, 111, 112, 113] (by decide +kernel) (by decide +kernel)
set_option maxRecDepth 20000 in
theorem gX5_list_X5_capacity : GoodIn wsX5_list (wsV RX5 153 RX5 yX5_capacity wsX5_capacity) := goodIn_app (goodIn_of _ (by decide +kernel)) ggX5_list_X5_capacity
set_option maxRecDepth 20000 in
theorem ggX5_list_X3_buildList : GoodIn wsX5_list wsX3_buildList := goodIn_r _ [74, 75, 76, 77, 78, 79, 73, 80, 81, 82, 83, 84, 85, 86, 87, 88, 89, 90, 91, 92, 93, 94, 114, 115, 116, 117, 118, 119, 120, 121, 122, 123, 107, 108] (by decide +kernel) (by decide +kernel)
set_option maxRecDepth 20000 in
theorem gX5_list_X3_buildList : GoodIn wsX5_list (wsV RX5 228 RX3 yX3_buildList wsX3_buildList) := goodIn_app (goodIn_of _ (by decide +kernel)) ggX5_list_X3_buildList
set_option maxRecDepth 20000 in
theorem ggX5_list_X3_stepAt : GoodIn wsX5_list wsX3_stepAt := goodIn_r _ [98, 94, 85, 107, 108] (by decide +kernel) (by decide +kernel)
set_option maxRecDepth 20000 in
theorem gX5_list_X3_stepAt : GoodIn wsX5_list (wsV RX5 219 RX3 yX3_stepAt wsX3_stepAt) := goodIn_app (goodIn_of _ (by decide +kernel)) ggX5_list_X3_stepAt
theorem dX5_list_0 : decode cX5_list 0 = .ok (.aload_n 0, 1) := by decide +kernel
theorem dX5_list_1 : decode cX5_list 1 = .ok (.iload_n 1, 1) := by decide +kernel
theorem dX5_list_2 : decode cX5_list 2 = .ok (.invokevirtual 225, 3) := by decide +kernel
theorem dX5_list_5 : decode cX5_list 5 = .ok (.ifCond .ne 5, 3) := by decide +kernel
theorem dX5_list_8 : decode cX5_list 8 = .ok (.iconst (-1), 1) := by decide +kernel
theorem dX5_list_9 : decode cX5_list 9 = .ok (.ireturn, 1) := by decide +kernel
theorem dX5_list_10 : decode cX5_list 10 = .ok (.aload_n 0, 1) := by decide +kernel
theorem dX5_list_11 : decode cX5_list 11 = .ok (.invokevirtual 147, 3) := by decide +kernel
theorem dX5_list_14 : decode cX5_list 14 = .ok (.aload_n 0, 1) := by decide +kernel
theorem dX5_list_15 : decode cX5_list 15 = .ok (.getfield 44, 3) := by decide +kernel
theorem dX5_list_18 : decode cX5_list 18 = .ok (.aload_n 0, 1) := by decide +kernel
theorem dX5_list_19 : decode cX5_list 19 = .ok (.getfield 37, 3) := by decide +kernel
theorem dX5_list_22 : decode cX5_list 22 = .ok (.iload_n 1, 1) := by decide +kernel
theorem dX5_list_23 : decode cX5_list 23 = .ok (.aload_n 0, 1) := by decide +kernel
theorem dX5_list_24 : decode cX5_list 24 = .ok (.invokevirtual 153, 3) := by decide +kernel
theorem dX5_list_27 : decode cX5_list 27 = .ok (.invokevirtual 228, 3) := by decide +kernel
theorem dX5_list_30 : decode cX5_list 30 = .ok (.iload_n 2, 1) := by decide +kernel
theorem dX5_list_31 : decode cX5_list 31 = .ok (.iconst (-1), 1) := by decide +kernel
theorem dX5_list_32 : decode cX5_list 32 = .ok (.if_icmp .ne 13, 3) := by decide +kernel
theorem dX5_list_35 : decode cX5_list 35 = .ok (.aload_n 0, 1) := by decide +kernel
theorem dX5_list_36 : decode cX5_list 36 = .ok (.getfield 44, 3) := by decide +kernel
theorem dX5_list_39 : decode cX5_list 39 = .ok (.getfield 218, 3) := by decide +kernel
theorem dX5_list_42 : decode cX5_list 42 = .ok (.goto 11, 3) := by decide +kernel
theorem dX5_list_45 : decode cX5_list 45 = .ok (.aload_n 0, 1) := by decide +kernel
theorem dX5_list_46 : decode cX5_list 46 = .ok (.getfield 44, 3) := by decide +kernel
theorem dX5_list_49 : decode cX5_list 49 = .ok (.iload_n 2, 1) := by decide +kernel
theorem dX5_list_50 : decode cX5_list 50 = .ok (.invokevirtual 219, 3) := by decide +kernel
theorem dX5_list_53 : decode cX5_list 53 = .ok (.ireturn, 1) := by decide +kernel
set_option maxRecDepth 20000 in
theorem ggX5_dominator_X5_isLevel : GoodIn wsX5_dominator wsX5_isLevel := goodIn_r _ [9, 10, 11, 100, 101, 102, 103, 104, 105, 106, 107, 118, 119, 120, 121, 122] (by decide +kernel) (by decide +kernel)
set_option maxRecDepth 20000 in
theorem gX5_dominator_X5_isLevel : GoodIn wsX5_dominator (wsV RX5 225 RX5 yX5_isLevel wsX5_isLevel) := goodIn_app (goodIn_of _ (by decide +kernel)) ggX5_dominator_X5_isLevel
set_option maxRecDepth 20000 in
theorem ggX5_dominator_X5_prepare : GoodIn wsX5_dominator wsX5_prepare := goodIn_r _ [15, 1, 16, 10, 17, 18, 19, 8, 20, 21, 22, 23, 24, 25, 26, 27, 28, 29, 30, 31, 32, 33, 34, 35, 36, 37, 38, 39, 40, 41, 42, 43, 44, 45, 46, 47, 48, 49, 50, 51, 52, 53, 54, 55, 56, 57, 58, 59, 60, 61, 62, 63, 64, 65, 66, 100, 101, 102, 103, 104, 105, 106, 107, 108, 109, 110, 111, 112, 113, 114, 115, 116, 117, 118, 119, 120, 121, 122] (by decide +kernel) (by decide +kernel)
set_option maxRecDepth 20000 in
theorem gX5_dominator_X5_prepare : GoodIn wsX5_dominator (wsV RX5 147 RX5 yX5_prepare wsX5_prepare) := goodIn_app (goodIn_of _ (by decide +kernel)) ggX5_dominator_X5_prepare
set_option maxRecDepth 20000 in
theorem ggX5_dominator_X5_capacity : GoodIn wsX5_dominator wsX5_capacity := goodIn_r _ [70, 10, 21, 100, 101, 102, 103, 104, 105, 106, 107, 118, 119, 120, 121, 122] (by decide +kernel) (by decide +kernel)
set_option maxRecDepth 20000 in
theorem gX5_dominator_X5_capacity : GoodIn wsX5_dominator (wsV RX5 153 RX5 yX5_capacity wsX5_capacity) := goodIn_app (goodIn_of _ (by decide +kernel)) ggX5_dominator_X5_capacity
set_option maxRecDepth 20000 in
theorem ggX5_dominator_X3_buildList : GoodIn wsX5_dominator wsX3_buildList := goodIn_r _ [75, 76, 77, 78, 79, 80, 74, 81, 82, 83, 84, 85, 86, 87, 88, 89, 90, 91, 92, 93, 94, 95, 108, 109, 110, 111, 112, 113, 114, 115, 116, 117, 123, 124] (by decide +kernel) (by decide +kernel)
set_option maxRecDepth 20000 in
theorem gX5_dominator_X3_buildList : GoodIn wsX5_dominator (wsV RX5 228 RX3 yX3_buildList wsX3_buildList) := goodIn_app (goodIn_of _ (by decide +kernel)) ggX5_dominator_X3_buildList
set_option maxRecDepth 20000 in
theorem ggX5_dominator_X3_firstWith : GoodIn wsX5_dominator wsX3_firstWith := goodIn_r _ [99, 95, 86, 123, 124] (by decide +kernel) (by decide +kernel)
set_option maxRecDepth 20000 in
theorem gX5_dominator_X3_firstWith : GoodIn wsX5_dominator (wsV RX5 235 RX3 yX3_firstWith wsX3_firstWith) := goodIn_app (goodIn_of _ (by decide +kernel)) ggX5_dominator_X3_firstWith
theorem dX5_dominator_0 : decode cX5_dominator 0 = .ok (.aload_n 0, 1) := by decide +kernel
theorem dX5_dominator_1 : decode cX5_dominator 1 = .ok (.iload_n 1, 1) := by decide +kernel
theorem dX5_dominator_2 : decode cX5_dominator 2 = .ok (.invokevirtual 225, 3) := by decide +kernel
theorem dX5_dominator_5 : decode cX5_dominator 5 = .ok (.ifCond .eq 14, 3) := by decide +kernel
theorem dX5_dominator_8 : decode cX5_dominator 8 = .ok (.iload_n 2, 1) := by decide +kernel
theorem dX5_dominator_9 : decode cX5_dominator 9 = .ok (.ifCond .lt 10, 3) := by decide +kernel
theorem dX5_dominator_12 : decode cX5_dominator 12 = .ok (.iload_n 2, 1) := by decide +kernel
theorem dX5_dominator_13 : decode cX5_dominator 13 = .ok (.iconst 1, 1) := by decide +kernel
theorem dX5_dominator_14 : decode cX5_dominator 14 = .ok (.iload_n 1, 1) := by decide +kernel
theorem dX5_dominator_15 : decode cX5_dominator 15 = .ok (.ishl, 1) := by decide +kernel
theorem dX5_dominator_16 : decode cX5_dominator 16 = .ok (.if_icmp .lt 5, 3) := by decide +kernel
theorem dX5_dominator_19 : decode cX5_dominator 19 = .ok (.iconst (-1), 1) := by decide +kernel
theorem dX5_dominator_20 : decode cX5_dominator 20 = .ok (.ireturn, 1) := by decide +kernel
theorem dX5_dominator_21 : decode cX5_dominator 21 = .ok (.aload_n 0, 1) := by decide +kernel
theorem dX5_dominator_22 : decode cX5_dominator 22 = .ok (.invokevirtual 147, 3) := by decide +kernel
theorem dX5_dominator_25 : decode cX5_dominator 25 = .ok (.aload_n 0, 1) := by decide +kernel
theorem dX5_dominator_26 : decode cX5_dominator 26 = .ok (.getfield 37, 3) := by decide +kernel
theorem dX5_dominator_29 : decode cX5_dominator 29 = .ok (.getfield 175, 3) := by decide +kernel
theorem dX5_dominator_32 : decode cX5_dominator 32 = .ok (.iload_n 2, 1) := by decide +kernel
theorem dX5_dominator_33 : decode cX5_dominator 33 = .ok (.iaload, 1) := by decide +kernel
theorem dX5_dominator_34 : decode cX5_dominator 34 = .ok (.aload_n 0, 1) := by decide +kernel
theorem dX5_dominator_35 : decode cX5_dominator 35 = .ok (.invokevirtual 153, 3) := by decide +kernel
theorem dX5_dominator_38 : decode cX5_dominator 38 = .ok (.if_icmp .le 6, 3) := by decide +kernel
theorem dX5_dominator_41 : decode cX5_dominator 41 = .ok (.bipush (-5), 2) := by decide +kernel
theorem dX5_dominator_43 : decode cX5_dominator 43 = .ok (.ireturn, 1) := by decide +kernel
theorem dX5_dominator_44 : decode cX5_dominator 44 = .ok (.aload_n 0, 1) := by decide +kernel
theorem dX5_dominator_45 : decode cX5_dominator 45 = .ok (.getfield 44, 3) := by decide +kernel
theorem dX5_dominator_48 : decode cX5_dominator 48 = .ok (.aload_n 0, 1) := by decide +kernel
theorem dX5_dominator_49 : decode cX5_dominator 49 = .ok (.getfield 37, 3) := by decide +kernel
theorem dX5_dominator_52 : decode cX5_dominator 52 = .ok (.iload_n 1, 1) := by decide +kernel
theorem dX5_dominator_53 : decode cX5_dominator 53 = .ok (.aload_n 0, 1) := by decide +kernel
theorem dX5_dominator_54 : decode cX5_dominator 54 = .ok (.invokevirtual 153, 3) := by decide +kernel
theorem dX5_dominator_57 : decode cX5_dominator 57 = .ok (.invokevirtual 228, 3) := by decide +kernel
theorem dX5_dominator_60 : decode cX5_dominator 60 = .ok (.aload_n 0, 1) := by decide +kernel
theorem dX5_dominator_61 : decode cX5_dominator 61 = .ok (.getfield 44, 3) := by decide +kernel
theorem dX5_dominator_64 : decode cX5_dominator 64 = .ok (.aload_n 0, 1) := by decide +kernel
theorem dX5_dominator_65 : decode cX5_dominator 65 = .ok (.getfield 37, 3) := by decide +kernel
theorem dX5_dominator_68 : decode cX5_dominator 68 = .ok (.getfield 232, 3) := by decide +kernel
theorem dX5_dominator_71 : decode cX5_dominator 71 = .ok (.aload_n 0, 1) := by decide +kernel
theorem dX5_dominator_72 : decode cX5_dominator 72 = .ok (.getfield 37, 3) := by decide +kernel
theorem dX5_dominator_75 : decode cX5_dominator 75 = .ok (.getfield 232, 3) := by decide +kernel
theorem dX5_dominator_78 : decode cX5_dominator 78 = .ok (.iload_n 2, 1) := by decide +kernel
theorem dX5_dominator_79 : decode cX5_dominator 79 = .ok (.iaload, 1) := by decide +kernel
theorem dX5_dominator_80 : decode cX5_dominator 80 = .ok (.invokevirtual 235, 3) := by decide +kernel
theorem dX5_dominator_83 : decode cX5_dominator 83 = .ok (.istore_n 3, 1) := by decide +kernel
theorem dX5_dominator_84 : decode cX5_dominator 84 = .ok (.iload_n 3, 1) := by decide +kernel
theorem dX5_dominator_85 : decode cX5_dominator 85 = .ok (.iload_n 2, 1) := by decide +kernel
theorem dX5_dominator_86 : decode cX5_dominator 86 = .ok (.if_icmp .ne 8, 3) := by decide +kernel
theorem dX5_dominator_89 : decode cX5_dominator 89 = .ok (.bipush (-6), 2) := by decide +kernel
theorem dX5_dominator_91 : decode cX5_dominator 91 = .ok (.goto 4, 3) := by decide +kernel
theorem dX5_dominator_94 : decode cX5_dominator 94 = .ok (.iload_n 3, 1) := by decide +kernel
theorem dX5_dominator_95 : decode cX5_dominator 95 = .ok (.ireturn, 1) := by decide +kernel
set_option maxRecDepth 20000 in
theorem ggX5_threshold_X5_thresholds : GoodIn wsX5_threshold wsX5_thresholds := goodIn_r _ [5, 6, 7, 8, 9, 10, 11, 12, 13, 18, 19, 20, 21, 22, 23, 24, 25, 26, 27, 28, 29, 30] (by decide +kernel) (by decide +kernel)
set_option maxRecDepth 20000 in
theorem gX5_threshold_X5_thresholds : GoodIn wsX5_threshold (wsV RX5 239 RX5 yX5_thresholds wsX5_thresholds) := goodIn_app (goodIn_of _ (by decide +kernel)) ggX5_threshold_X5_thresholds
set_option maxRecDepth 20000 in
theorem ggX5_threshold_X5_thresholdAt : GoodIn wsX5_threshold wsX5_thresholdAt := goodIn_r _ [17, 6, 7, 8, 9, 10, 11, 12, 13, 18, 19, 20, 21, 22, 23, 24, 25, 26, 27, 28, 29, 30] (by decide +kernel) (by decide +kernel)
set_option maxRecDepth 20000 in
theorem gX5_threshold_X5_thresholdAt : GoodIn wsX5_threshold (wsV RX5 242 RX5 yX5_thresholdAt wsX5_thresholdAt) := goodIn_app (goodIn_of _ (by decide +kernel)) ggX5_threshold_X5_thresholdAt
theorem dX5_threshold_0 : decode cX5_threshold 0 = .ok (.iload_n 1, 1) := by decide +kernel
theorem dX5_threshold_1 : decode cX5_threshold 1 = .ok (.iconst (-1), 1) := by decide +kernel
theorem dX5_threshold_2 : decode cX5_threshold 2 = .ok (.if_icmp .ne 8, 3) := by decide +kernel
theorem dX5_threshold_5 : decode cX5_threshold 5 = .ok (.aload_n 0, 1) := by decide +kernel
theorem dX5_threshold_6 : decode cX5_threshold 6 = .ok (.invokevirtual 239, 3) := by decide +kernel
theorem dX5_threshold_9 : decode cX5_threshold 9 = .ok (.ireturn, 1) := by decide +kernel
theorem dX5_threshold_10 : decode cX5_threshold 10 = .ok (.iload_n 1, 1) := by decide +kernel
theorem dX5_threshold_11 : decode cX5_threshold 11 = .ok (.ifCond .lt 19, 3) := by decide +kernel
theorem dX5_threshold_14 : decode cX5_threshold 14 = .ok (.iload_n 1, 1) := by decide +kernel
theorem dX5_threshold_15 : decode cX5_threshold 15 = .ok (.aload_n 0, 1) := by decide +kernel
theorem dX5_threshold_16 : decode cX5_threshold 16 = .ok (.invokevirtual 239, 3) := by decide +kernel
theorem dX5_threshold_19 : decode cX5_threshold 19 = .ok (.if_icmp .ge 11, 3) := by decide +kernel
theorem dX5_threshold_22 : decode cX5_threshold 22 = .ok (.aload_n 0, 1) := by decide +kernel
theorem dX5_threshold_23 : decode cX5_threshold 23 = .ok (.iload_n 1, 1) := by decide +kernel
theorem dX5_threshold_24 : decode cX5_threshold 24 = .ok (.invokevirtual 242, 3) := by decide +kernel
theorem dX5_threshold_27 : decode cX5_threshold 27 = .ok (.goto 5, 3) := by decide +kernel
theorem dX5_threshold_30 : decode cX5_threshold 30 = .ok (.bipush (-6), 2) := by decide +kernel
theorem dX5_threshold_32 : decode cX5_threshold 32 = .ok (.ireturn, 1) := by decide +kernel
set_option maxRecDepth 20000 in
theorem ggX5_plain_X5_thresholds : GoodIn wsX5_plain wsX5_thresholds := goodIn_r _ [8, 3, 9, 10, 11, 12, 13, 14, 15, 95, 96, 97, 98, 99, 100, 101, 102, 103, 104, 105, 106, 107] (by decide +kernel) (by decide +kernel)
set_option maxRecDepth 20000 in
theorem gX5_plain_X5_thresholds : GoodIn wsX5_plain (wsV RX5 239 RX5 yX5_thresholds wsX5_thresholds) := goodIn_app (goodIn_of _ (by decide +kernel)) ggX5_plain_X5_thresholds
set_option maxRecDepth 20000 in
theorem ggX5_plain_X5_thresholdAt : GoodIn wsX5_plain wsX5_thresholdAt := goodIn_r _ [19, 3, 9, 10, 11, 12, 13, 14, 15, 95, 96, 97, 98, 99, 100, 101, 102, 103, 104, 105, 106, 107] (by decide +kernel) (by decide +kernel)
set_option maxRecDepth 20000 in
theorem gX5_plain_X5_thresholdAt : GoodIn wsX5_plain (wsV RX5 242 RX5 yX5_thresholdAt wsX5_thresholdAt) := goodIn_app (goodIn_of _ (by decide +kernel)) ggX5_plain_X5_thresholdAt
set_option maxRecDepth 20000 in
theorem ggX5_plain_X5_capacity : GoodIn wsX5_plain wsX5_capacity := goodIn_r _ [23, 3, 24, 95, 96, 97, 98, 99, 100, 101, 102, 103, 104, 105, 106, 107] (by decide +kernel) (by decide +kernel)
set_option maxRecDepth 20000 in
theorem gX5_plain_X5_capacity : GoodIn wsX5_plain (wsV RX5 153 RX5 yX5_capacity wsX5_capacity) := goodIn_app (goodIn_of _ (by decide +kernel)) ggX5_plain_X5_capacity
set_option maxRecDepth 20000 in
theorem ggX5_plain_X5_budget : GoodIn wsX5_plain wsX5_budget := goodIn_r _ [28, 3, 24, 95, 96, 97, 98, 99, 100, 101, 102, 103, 104, 105, 106, 107] (by decide +kernel) (by decide +kernel)
set_option maxRecDepth 20000 in
theorem gX5_plain_X5_budget : GoodIn wsX5_plain (wsV RX5 134 RX5 yX5_budget wsX5_budget) := goodIn_app (goodIn_of _ (by decide +kernel)) ggX5_plain_X5_budget
set_option maxRecDepth 20000 in
theorem ggX5_plain_X5_prepare : GoodIn wsX5_plain wsX5_prepare := goodIn_r _ [32, 2, 33, 3, 25, 26, 27, 7, 28, 24, 34, 35, 36, 37, 38, 39, 40, 41, 42, 43, 44, 45, 46, 47, 48, 49, 50, 51, 52, 53, 54, 55, 56, 57, 58, 59, 60, 61, 62, 63, 64, 65, 66, 67, 68, 69, 70, 71, 72, 73, 12, 74, 75, 15, 14, 95, 96, 97, 98, 99, 100, 101, 102, 108, 109, 110, 111, 112, 113, 114, 115, 116, 117, 103, 104, 105, 106, 107] (by decide +kernel) (by decide +kernel)
set_option maxRecDepth 20000 in
theorem gX5_plain_X5_prepare : GoodIn wsX5_plain (wsV RX5 147 RX5 yX5_prepare wsX5_prepare) := goodIn_app (goodIn_of _ (by decide +kernel)) ggX5_plain_X5_prepare
set_option maxRecDepth 20000 in
theorem ggX5_plain_X2_plainValue : GoodIn wsX5_plain wsX2_plainValue := goodIn_r _ [80, 81, 82, 83, 84, 85, 86, 87, 88, 89, 90, 63, 7, 64, 91, 92, 93, 37, 94, 69, 103, 104, 105, 106, 107, 118, 119, 120, 121, 122, 108, 109, 110, 111, 112, 113, 114, 115, 116, 117] (by decide +kernel) (by decide +kernel)
set_option maxRecDepth 20000 in
theorem gX5_plain_X2_plainValue : GoodIn wsX5_plain (wsV RX5 245 RX2 yX2_plainValue wsX2_plainValue) := goodIn_app (goodIn_of _ (by decide +kernel)) ggX5_plain_X2_plainValue
theorem dX5_plain_0 : decode cX5_plain 0 = .ok (.iload_n 1, 1) := by decide +kernel
theorem dX5_plain_1 : decode cX5_plain 1 = .ok (.ifCond .lt 11, 3) := by decide +kernel
theorem dX5_plain_4 : decode cX5_plain 4 = .ok (.iload_n 1, 1) := by decide +kernel
theorem dX5_plain_5 : decode cX5_plain 5 = .ok (.aload_n 0, 1) := by decide +kernel
theorem dX5_plain_6 : decode cX5_plain 6 = .ok (.invokevirtual 239, 3) := by decide +kernel
theorem dX5_plain_9 : decode cX5_plain 9 = .ok (.if_icmp .lt 5, 3) := by decide +kernel
theorem dX5_plain_12 : decode cX5_plain 12 = .ok (.iconst (-1), 1) := by decide +kernel
theorem dX5_plain_13 : decode cX5_plain 13 = .ok (.ireturn, 1) := by decide +kernel
theorem dX5_plain_14 : decode cX5_plain 14 = .ok (.aload_n 0, 1) := by decide +kernel
theorem dX5_plain_15 : decode cX5_plain 15 = .ok (.iload_n 1, 1) := by decide +kernel
theorem dX5_plain_16 : decode cX5_plain 16 = .ok (.invokevirtual 242, 3) := by decide +kernel
theorem dX5_plain_19 : decode cX5_plain 19 = .ok (.istore_n 2, 1) := by decide +kernel
theorem dX5_plain_20 : decode cX5_plain 20 = .ok (.aload_n 0, 1) := by decide +kernel
theorem dX5_plain_21 : decode cX5_plain 21 = .ok (.invokevirtual 153, 3) := by decide +kernel
theorem dX5_plain_24 : decode cX5_plain 24 = .ok (.aload_n 0, 1) := by decide +kernel
theorem dX5_plain_25 : decode cX5_plain 25 = .ok (.iconst 1, 1) := by decide +kernel
theorem dX5_plain_26 : decode cX5_plain 26 = .ok (.invokevirtual 134, 3) := by decide +kernel
theorem dX5_plain_29 : decode cX5_plain 29 = .ok (.iload_n 2, 1) := by decide +kernel
theorem dX5_plain_30 : decode cX5_plain 30 = .ok (.imul, 1) := by decide +kernel
theorem dX5_plain_31 : decode cX5_plain 31 = .ok (.isub, 1) := by decide +kernel
theorem dX5_plain_32 : decode cX5_plain 32 = .ok (.istore_n 3, 1) := by decide +kernel
theorem dX5_plain_33 : decode cX5_plain 33 = .ok (.iload_n 3, 1) := by decide +kernel
theorem dX5_plain_34 : decode cX5_plain 34 = .ok (.ifCond .ge 6, 3) := by decide +kernel
theorem dX5_plain_37 : decode cX5_plain 37 = .ok (.bipush (-6), 2) := by decide +kernel
theorem dX5_plain_39 : decode cX5_plain 39 = .ok (.ireturn, 1) := by decide +kernel
theorem dX5_plain_40 : decode cX5_plain 40 = .ok (.aload_n 0, 1) := by decide +kernel
theorem dX5_plain_41 : decode cX5_plain 41 = .ok (.invokevirtual 147, 3) := by decide +kernel
theorem dX5_plain_44 : decode cX5_plain 44 = .ok (.aload_n 0, 1) := by decide +kernel
theorem dX5_plain_45 : decode cX5_plain 45 = .ok (.getfield 51, 3) := by decide +kernel
theorem dX5_plain_48 : decode cX5_plain 48 = .ok (.aload_n 0, 1) := by decide +kernel
theorem dX5_plain_49 : decode cX5_plain 49 = .ok (.getfield 37, 3) := by decide +kernel
theorem dX5_plain_52 : decode cX5_plain 52 = .ok (.aload_n 0, 1) := by decide +kernel
theorem dX5_plain_53 : decode cX5_plain 53 = .ok (.getfield 10, 3) := by decide +kernel
theorem dX5_plain_56 : decode cX5_plain 56 = .ok (.iload_n 2, 1) := by decide +kernel
theorem dX5_plain_57 : decode cX5_plain 57 = .ok (.iload_n 3, 1) := by decide +kernel
theorem dX5_plain_58 : decode cX5_plain 58 = .ok (.invokevirtual 245, 3) := by decide +kernel
theorem dX5_plain_61 : decode cX5_plain 61 = .ok (.ireturn, 1) := by decide +kernel
set_option maxRecDepth 20000 in
theorem ggX5_recovered_X5_isChoice : GoodIn wsX5_recovered wsX5_isChoice := goodIn_r _ [10, 3, 11, 92, 93, 94, 95, 96, 97, 98, 99, 110, 111, 112, 113, 114] (by decide +kernel) (by decide +kernel)
set_option maxRecDepth 20000 in
theorem gX5_recovered_X5_isChoice : GoodIn wsX5_recovered (wsV RX5 128 RX5 yX5_isChoice wsX5_isChoice) := goodIn_app (goodIn_of _ (by decide +kernel)) ggX5_recovered_X5_isChoice
set_option maxRecDepth 20000 in
theorem ggX5_recovered_J6_bitCount_0f7a4 : GoodIn wsX5_recovered wsJ6_bitCount_0f7a4 := goodIn_r _ [15, 16, 17, 18] (by decide +kernel) (by decide +kernel)
set_option maxRecDepth 20000 in
theorem gX5_recovered_J6_bitCount_0f7a4 : GoodIn wsX5_recovered (va_wsS RX5 164 yJ6_bitCount_0f7a4 wsJ6_bitCount_0f7a4) := goodIn_app (goodIn_of _ (by decide +kernel)) ggX5_recovered_J6_bitCount_0f7a4
set_option maxRecDepth 20000 in
theorem ggX5_recovered_X5_budget : GoodIn wsX5_recovered wsX5_budget := goodIn_r _ [22, 3, 23, 92, 93, 94, 95, 96, 97, 98, 99, 110, 111, 112, 113, 114] (by decide +kernel) (by decide +kernel)
set_option maxRecDepth 20000 in
theorem gX5_recovered_X5_budget : GoodIn wsX5_recovered (wsV RX5 134 RX5 yX5_budget wsX5_budget) := goodIn_app (goodIn_of _ (by decide +kernel)) ggX5_recovered_X5_budget
set_option maxRecDepth 20000 in
theorem ggX5_recovered_X5_prepare : GoodIn wsX5_recovered wsX5_prepare := goodIn_r _ [27, 2, 28, 3, 19, 20, 21, 9, 22, 23, 29, 30, 31, 32, 33, 34, 35, 36, 37, 38, 39, 40, 41, 42, 43, 44, 45, 46, 47, 48, 49, 50, 51, 13, 14, 15, 16, 17, 18, 52, 53, 54, 55, 56, 57, 58, 59, 60, 61, 62, 63, 64, 65, 66, 67, 92, 93, 94, 95, 96, 97, 98, 99, 100, 101, 102, 103, 104, 105, 106, 107, 108, 109, 110, 111, 112, 113, 114] (by decide +kernel) (by decide +kernel)
set_option maxRecDepth 20000 in
theorem gX5_recovered_X5_prepare : GoodIn wsX5_recovered (wsV RX5 147 RX5 yX5_prepare wsX5_prepare) := goodIn_app (goodIn_of _ (by decide +kernel)) ggX5_recovered_X5_prepare
set_option maxRecDepth 20000 in
theorem ggX5_recovered_X2_collect : GoodIn wsX5_recovered wsX2_collect := goodIn_r _ [72, 73, 74, 75, 76, 77, 78, 52, 9, 53, 79, 13, 14, 15, 16, 17, 18, 80, 81, 82, 32, 83, 58, 115, 116, 117, 118, 119, 110, 111, 112, 113, 114, 100, 101, 102, 103, 104, 105, 106, 107, 108, 109] (by decide +kernel) (by decide +kernel)
set_option maxRecDepth 20000 in
theorem gX5_recovered_X2_collect : GoodIn wsX5_recovered (wsV RX5 249 RX2 yX2_collect wsX2_collect) := goodIn_app (goodIn_of _ (by decide +kernel)) ggX5_recovered_X2_collect
set_option maxRecDepth 20000 in
theorem ggX5_recovered_X5_capacity : GoodIn wsX5_recovered wsX5_capacity := goodIn_r _ [87, 3, 23, 92, 93, 94, 95, 96, 97, 98, 99, 110, 111, 112, 113, 114] (by decide +kernel) (by decide +kernel)
set_option maxRecDepth 20000 in
theorem gX5_recovered_X5_capacity : GoodIn wsX5_recovered (wsV RX5 153 RX5 yX5_capacity wsX5_capacity) := goodIn_app (goodIn_of _ (by decide +kernel)) ggX5_recovered_X5_capacity
set_option maxRecDepth 20000 in
theorem ggX5_recovered_X2_profitIn : GoodIn wsX5_recovered wsX2_profitIn := goodIn_r _ [91, 77, 78, 73, 76, 115, 116, 117, 118, 119] (by decide +kernel) (by decide +kernel)
set_option maxRecDepth 20000 in
theorem gX5_recovered_X2_profitIn : GoodIn wsX5_recovered (wsV RX5 253 RX2 yX2_profitIn wsX2_profitIn) := goodIn_app (goodIn_of _ (by decide +kernel)) ggX5_recovered_X2_profitIn
theorem dX5_recovered_0 : decode cX5_recovered 0 = .ok (.aload_n 0, 1) := by decide +kernel
theorem dX5_recovered_1 : decode cX5_recovered 1 = .ok (.iload_n 1, 1) := by decide +kernel
theorem dX5_recovered_2 : decode cX5_recovered 2 = .ok (.invokevirtual 128, 3) := by decide +kernel
theorem dX5_recovered_5 : decode cX5_recovered 5 = .ok (.ifCond .eq 11, 3) := by decide +kernel
theorem dX5_recovered_8 : decode cX5_recovered 8 = .ok (.aload_n 0, 1) := by decide +kernel
theorem dX5_recovered_9 : decode cX5_recovered 9 = .ok (.iload_n 2, 1) := by decide +kernel
theorem dX5_recovered_10 : decode cX5_recovered 10 = .ok (.invokevirtual 128, 3) := by decide +kernel
theorem dX5_recovered_13 : decode cX5_recovered 13 = .ok (.ifCond .ne 5, 3) := by decide +kernel
theorem dX5_recovered_16 : decode cX5_recovered 16 = .ok (.iconst (-1), 1) := by decide +kernel
theorem dX5_recovered_17 : decode cX5_recovered 17 = .ok (.ireturn, 1) := by decide +kernel
theorem dX5_recovered_18 : decode cX5_recovered 18 = .ok (.iload_n 3, 1) := by decide +kernel
theorem dX5_recovered_19 : decode cX5_recovered 19 = .ok (.ifCond .lt 9, 3) := by decide +kernel
theorem dX5_recovered_22 : decode cX5_recovered 22 = .ok (.iload_n 3, 1) := by decide +kernel
theorem dX5_recovered_23 : decode cX5_recovered 23 = .ok (.bipush 12, 2) := by decide +kernel
theorem dX5_recovered_25 : decode cX5_recovered 25 = .ok (.if_icmp .le 6, 3) := by decide +kernel
theorem dX5_recovered_28 : decode cX5_recovered 28 = .ok (.bipush (-2), 2) := by decide +kernel
theorem dX5_recovered_30 : decode cX5_recovered 30 = .ok (.ireturn, 1) := by decide +kernel
theorem dX5_recovered_31 : decode cX5_recovered 31 = .ok (.iload_n 2, 1) := by decide +kernel
theorem dX5_recovered_32 : decode cX5_recovered 32 = .ok (.invokestatic 164, 3) := by decide +kernel
theorem dX5_recovered_35 : decode cX5_recovered 35 = .ok (.aload_n 0, 1) := by decide +kernel
theorem dX5_recovered_36 : decode cX5_recovered 36 = .ok (.iconst 1, 1) := by decide +kernel
theorem dX5_recovered_37 : decode cX5_recovered 37 = .ok (.invokevirtual 134, 3) := by decide +kernel
theorem dX5_recovered_40 : decode cX5_recovered 40 = .ok (.if_icmp .le 6, 3) := by decide +kernel
theorem dX5_recovered_43 : decode cX5_recovered 43 = .ok (.bipush (-5), 2) := by decide +kernel
theorem dX5_recovered_45 : decode cX5_recovered 45 = .ok (.ireturn, 1) := by decide +kernel
theorem dX5_recovered_46 : decode cX5_recovered 46 = .ok (.aload_n 0, 1) := by decide +kernel
theorem dX5_recovered_47 : decode cX5_recovered 47 = .ok (.invokevirtual 147, 3) := by decide +kernel
theorem dX5_recovered_50 : decode cX5_recovered 50 = .ok (.aload_n 0, 1) := by decide +kernel
theorem dX5_recovered_51 : decode cX5_recovered 51 = .ok (.getfield 51, 3) := by decide +kernel
theorem dX5_recovered_54 : decode cX5_recovered 54 = .ok (.aload_n 0, 1) := by decide +kernel
theorem dX5_recovered_55 : decode cX5_recovered 55 = .ok (.getfield 37, 3) := by decide +kernel
theorem dX5_recovered_58 : decode cX5_recovered 58 = .ok (.aload_n 0, 1) := by decide +kernel
theorem dX5_recovered_59 : decode cX5_recovered 59 = .ok (.getfield 10, 3) := by decide +kernel
theorem dX5_recovered_62 : decode cX5_recovered 62 = .ok (.iload_n 1, 1) := by decide +kernel
theorem dX5_recovered_63 : decode cX5_recovered 63 = .ok (.iload_n 3, 1) := by decide +kernel
theorem dX5_recovered_64 : decode cX5_recovered 64 = .ok (.invokevirtual 249, 3) := by decide +kernel
theorem dX5_recovered_67 : decode cX5_recovered 67 = .ok (.aload_n 0, 1) := by decide +kernel
theorem dX5_recovered_68 : decode cX5_recovered 68 = .ok (.getfield 51, 3) := by decide +kernel
theorem dX5_recovered_71 : decode cX5_recovered 71 = .ok (.iload_n 2, 1) := by decide +kernel
theorem dX5_recovered_72 : decode cX5_recovered 72 = .ok (.ldc 143, 2) := by decide +kernel
theorem dX5_recovered_74 : decode cX5_recovered 74 = .ok (.aload_n 0, 1) := by decide +kernel
theorem dX5_recovered_75 : decode cX5_recovered 75 = .ok (.getfield 37, 3) := by decide +kernel
theorem dX5_recovered_78 : decode cX5_recovered 78 = .ok (.getfield 232, 3) := by decide +kernel
theorem dX5_recovered_81 : decode cX5_recovered 81 = .ok (.aload_n 0, 1) := by decide +kernel
theorem dX5_recovered_82 : decode cX5_recovered 82 = .ok (.invokevirtual 153, 3) := by decide +kernel
theorem dX5_recovered_85 : decode cX5_recovered 85 = .ok (.invokevirtual 253, 3) := by decide +kernel
theorem dX5_recovered_88 : decode cX5_recovered 88 = .ok (.ireturn, 1) := by decide +kernel
set_option maxRecDepth 20000 in
theorem ggX5_adversary_X5_isChoice : GoodIn wsX5_adversary wsX5_isChoice := goodIn_r _ [10, 3, 11, 92, 93, 94, 95, 96, 97, 98, 99, 110, 111, 112, 113, 114] (by decide +kernel) (by decide +kernel)
set_option maxRecDepth 20000 in
theorem gX5_adversary_X5_isChoice : GoodIn wsX5_adversary (wsV RX5 128 RX5 yX5_isChoice wsX5_isChoice) := goodIn_app (goodIn_of _ (by decide +kernel)) ggX5_adversary_X5_isChoice
set_option maxRecDepth 20000 in
theorem ggX5_adversary_X5_prepare : GoodIn wsX5_adversary wsX5_prepare := goodIn_r _ [15, 2, 16, 3, 17, 18, 19, 9, 20, 21, 22, 23, 24, 25, 26, 27, 28, 29, 30, 31, 32, 33, 34, 35, 36, 37, 38, 39, 40, 41, 42, 43, 44, 45, 46, 47, 48, 49, 50, 51, 52, 53, 54, 55, 56, 57, 58, 59, 60, 61, 62, 63, 64, 65, 66, 92, 93, 94, 95, 96, 97, 98, 99, 100, 101, 102, 103, 104, 105, 106, 107, 108, 109, 110, 111, 112, 113, 114] (by decide +kernel) (by decide +kernel)
set_option maxRecDepth 20000 in
theorem gX5_adversary_X5_prepare : GoodIn wsX5_adversary (wsV RX5 147 RX5 yX5_prepare wsX5_prepare) := goodIn_app (goodIn_of _ (by decide +kernel)) ggX5_adversary_X5_prepare
set_option maxRecDepth 20000 in
theorem ggX5_adversary_X2_collect : GoodIn wsX5_adversary wsX2_collect := goodIn_r _ [71, 72, 73, 74, 75, 76, 77, 51, 9, 52, 78, 45, 46, 47, 48, 49, 50, 79, 80, 81, 25, 82, 57, 115, 116, 117, 118, 119, 110, 111, 112, 113, 114, 100, 101, 102, 103, 104, 105, 106, 107, 108, 109] (by decide +kernel) (by decide +kernel)
set_option maxRecDepth 20000 in
theorem gX5_adversary_X2_collect : GoodIn wsX5_adversary (wsV RX5 249 RX2 yX2_collect wsX2_collect) := goodIn_app (goodIn_of _ (by decide +kernel)) ggX5_adversary_X2_collect
set_option maxRecDepth 20000 in
theorem ggX5_adversary_J6_bitCount_0f7a4 : GoodIn wsX5_adversary wsJ6_bitCount_0f7a4 := goodIn_r _ [47, 48, 49, 50] (by decide +kernel) (by decide +kernel)
set_option maxRecDepth 20000 in
theorem gX5_adversary_J6_bitCount_0f7a4 : GoodIn wsX5_adversary (va_wsS RX5 164 yJ6_bitCount_0f7a4 wsJ6_bitCount_0f7a4) := goodIn_app (goodIn_of _ (by decide +kernel)) ggX5_adversary_J6_bitCount_0f7a4
set_option maxRecDepth 20000 in
theorem ggX5_adversary_X5_budget : GoodIn wsX5_adversary wsX5_budget := goodIn_r _ [20, 3, 21, 92, 93, 94, 95, 96, 97, 98, 99, 110, 111, 112, 113, 114] (by decide +kernel) (by decide +kernel)
set_option maxRecDepth 20000 in
theorem gX5_adversary_X5_budget : GoodIn wsX5_adversary (wsV RX5 134 RX5 yX5_budget wsX5_budget) := goodIn_app (goodIn_of _ (by decide +kernel)) ggX5_adversary_X5_budget
set_option maxRecDepth 20000 in
theorem ggX5_adversary_X5_capacity : GoodIn wsX5_adversary wsX5_capacity := goodIn_r _ [87, 3, 21, 92, 93, 94, 95, 96, 97, 98, 99, 110, 111, 112, 113, 114] (by decide +kernel) (by decide +kernel)
set_option maxRecDepth 20000 in
theorem gX5_adversary_X5_capacity : GoodIn wsX5_adversary (wsV RX5 153 RX5 yX5_capacity wsX5_capacity) := goodIn_app (goodIn_of _ (by decide +kernel)) ggX5_adversary_X5_capacity
set_option maxRecDepth 20000 in
theorem ggX5_adversary_X2_profitIn : GoodIn wsX5_adversary wsX2_profitIn := goodIn_r _ [91, 76, 77, 72, 75, 115, 116, 117, 118, 119] (by decide +kernel) (by decide +kernel)
set_option maxRecDepth 20000 in
theorem gX5_adversary_X2_profitIn : GoodIn wsX5_adversary (wsV RX5 253 RX2 yX2_profitIn wsX2_profitIn) := goodIn_app (goodIn_of _ (by decide +kernel)) ggX5_adversary_X2_profitIn
theorem dX5_adversary_0 : decode cX5_adversary 0 = .ok (.aload_n 0, 1) := by decide +kernel
theorem dX5_adversary_1 : decode cX5_adversary 1 = .ok (.iload_n 1, 1) := by decide +kernel
theorem dX5_adversary_2 : decode cX5_adversary 2 = .ok (.invokevirtual 128, 3) := by decide +kernel
theorem dX5_adversary_5 : decode cX5_adversary 5 = .ok (.ifCond .ne 5, 3) := by decide +kernel
theorem dX5_adversary_8 : decode cX5_adversary 8 = .ok (.iconst (-1), 1) := by decide +kernel
theorem dX5_adversary_9 : decode cX5_adversary 9 = .ok (.ireturn, 1) := by decide +kernel
theorem dX5_adversary_10 : decode cX5_adversary 10 = .ok (.iload_n 2, 1) := by decide +kernel
theorem dX5_adversary_11 : decode cX5_adversary 11 = .ok (.ifCond .lt 18, 3) := by decide +kernel
theorem dX5_adversary_14 : decode cX5_adversary 14 = .ok (.iload_n 2, 1) := by decide +kernel
theorem dX5_adversary_15 : decode cX5_adversary 15 = .ok (.bipush 12, 2) := by decide +kernel
theorem dX5_adversary_17 : decode cX5_adversary 17 = .ok (.if_icmp .gt 12, 3) := by decide +kernel
theorem dX5_adversary_20 : decode cX5_adversary 20 = .ok (.iload_n 3, 1) := by decide +kernel
theorem dX5_adversary_21 : decode cX5_adversary 21 = .ok (.ifCond .lt 8, 3) := by decide +kernel
theorem dX5_adversary_24 : decode cX5_adversary 24 = .ok (.iload_n 3, 1) := by decide +kernel
theorem dX5_adversary_25 : decode cX5_adversary 25 = .ok (.iconst 1, 1) := by decide +kernel
theorem dX5_adversary_26 : decode cX5_adversary 26 = .ok (.if_icmp .le 6, 3) := by decide +kernel
theorem dX5_adversary_29 : decode cX5_adversary 29 = .ok (.bipush (-2), 2) := by decide +kernel
theorem dX5_adversary_31 : decode cX5_adversary 31 = .ok (.ireturn, 1) := by decide +kernel
theorem dX5_adversary_32 : decode cX5_adversary 32 = .ok (.aload_n 0, 1) := by decide +kernel
theorem dX5_adversary_33 : decode cX5_adversary 33 = .ok (.invokevirtual 147, 3) := by decide +kernel
theorem dX5_adversary_36 : decode cX5_adversary 36 = .ok (.aload_n 0, 1) := by decide +kernel
theorem dX5_adversary_37 : decode cX5_adversary 37 = .ok (.getfield 51, 3) := by decide +kernel
theorem dX5_adversary_40 : decode cX5_adversary 40 = .ok (.aload_n 0, 1) := by decide +kernel
theorem dX5_adversary_41 : decode cX5_adversary 41 = .ok (.getfield 37, 3) := by decide +kernel
theorem dX5_adversary_44 : decode cX5_adversary 44 = .ok (.aload_n 0, 1) := by decide +kernel
theorem dX5_adversary_45 : decode cX5_adversary 45 = .ok (.getfield 10, 3) := by decide +kernel
theorem dX5_adversary_48 : decode cX5_adversary 48 = .ok (.iload_n 1, 1) := by decide +kernel
theorem dX5_adversary_49 : decode cX5_adversary 49 = .ok (.iload_n 2, 1) := by decide +kernel
theorem dX5_adversary_50 : decode cX5_adversary 50 = .ok (.invokevirtual 249, 3) := by decide +kernel
theorem dX5_adversary_53 : decode cX5_adversary 53 = .ok (.ldc 143, 2) := by decide +kernel
theorem dX5_adversary_55 : decode cX5_adversary 55 = .ok (.istore 4, 2) := by decide +kernel
theorem dX5_adversary_57 : decode cX5_adversary 57 = .ok (.iconst 0, 1) := by decide +kernel
theorem dX5_adversary_58 : decode cX5_adversary 58 = .ok (.istore 5, 2) := by decide +kernel
theorem dX5_adversary_60 : decode cX5_adversary 60 = .ok (.iconst 0, 1) := by decide +kernel
theorem dX5_adversary_61 : decode cX5_adversary 61 = .ok (.istore 6, 2) := by decide +kernel
theorem dX5_adversary_63 : decode cX5_adversary 63 = .ok (.iload 6, 2) := by decide +kernel
theorem dX5_adversary_65 : decode cX5_adversary 65 = .ok (.iload_n 1, 1) := by decide +kernel
theorem dX5_adversary_66 : decode cX5_adversary 66 = .ok (.if_icmp .gt 78, 3) := by decide +kernel
theorem dX5_adversary_69 : decode cX5_adversary 69 = .ok (.iload 4, 2) := by decide +kernel
theorem dX5_adversary_71 : decode cX5_adversary 71 = .ok (.ifCond .lt 73, 3) := by decide +kernel
theorem dX5_adversary_74 : decode cX5_adversary 74 = .ok (.iload 6, 2) := by decide +kernel
theorem dX5_adversary_76 : decode cX5_adversary 76 = .ok (.iload_n 1, 1) := by decide +kernel
theorem dX5_adversary_77 : decode cX5_adversary 77 = .ok (.iconst (-1), 1) := by decide +kernel
theorem dX5_adversary_78 : decode cX5_adversary 78 = .ok (.ixor, 1) := by decide +kernel
theorem dX5_adversary_79 : decode cX5_adversary 79 = .ok (.iand, 1) := by decide +kernel
theorem dX5_adversary_80 : decode cX5_adversary 80 = .ok (.ifCond .ne 58, 3) := by decide +kernel
theorem dX5_adversary_83 : decode cX5_adversary 83 = .ok (.iload 6, 2) := by decide +kernel
theorem dX5_adversary_85 : decode cX5_adversary 85 = .ok (.invokestatic 164, 3) := by decide +kernel
theorem dX5_adversary_88 : decode cX5_adversary 88 = .ok (.aload_n 0, 1) := by decide +kernel
theorem dX5_adversary_89 : decode cX5_adversary 89 = .ok (.iconst 1, 1) := by decide +kernel
theorem dX5_adversary_90 : decode cX5_adversary 90 = .ok (.invokevirtual 134, 3) := by decide +kernel
theorem dX5_adversary_93 : decode cX5_adversary 93 = .ok (.if_icmp .le 6, 3) := by decide +kernel
theorem dX5_adversary_96 : decode cX5_adversary 96 = .ok (.goto 42, 3) := by decide +kernel
theorem dX5_adversary_99 : decode cX5_adversary 99 = .ok (.aload_n 0, 1) := by decide +kernel
theorem dX5_adversary_100 : decode cX5_adversary 100 = .ok (.getfield 51, 3) := by decide +kernel
theorem dX5_adversary_103 : decode cX5_adversary 103 = .ok (.iload 6, 2) := by decide +kernel
theorem dX5_adversary_105 : decode cX5_adversary 105 = .ok (.iload 4, 2) := by decide +kernel
theorem dX5_adversary_107 : decode cX5_adversary 107 = .ok (.aload_n 0, 1) := by decide +kernel
theorem dX5_adversary_108 : decode cX5_adversary 108 = .ok (.getfield 37, 3) := by decide +kernel
theorem dX5_adversary_111 : decode cX5_adversary 111 = .ok (.getfield 232, 3) := by decide +kernel
theorem dX5_adversary_114 : decode cX5_adversary 114 = .ok (.aload_n 0, 1) := by decide +kernel
theorem dX5_adversary_115 : decode cX5_adversary 115 = .ok (.invokevirtual 153, 3) := by decide +kernel
theorem dX5_adversary_118 : decode cX5_adversary 118 = .ok (.invokevirtual 253, 3) := by decide +kernel
theorem dX5_adversary_121 : decode cX5_adversary 121 = .ok (.istore 7, 2) := by decide +kernel
theorem dX5_adversary_123 : decode cX5_adversary 123 = .ok (.iload 7, 2) := by decide +kernel
theorem dX5_adversary_125 : decode cX5_adversary 125 = .ok (.iload 4, 2) := by decide +kernel
theorem dX5_adversary_127 : decode cX5_adversary 127 = .ok (.if_icmp .ge 11, 3) := by decide +kernel
theorem dX5_adversary_130 : decode cX5_adversary 130 = .ok (.iload 7, 2) := by decide +kernel
theorem dX5_adversary_132 : decode cX5_adversary 132 = .ok (.istore 4, 2) := by decide +kernel
theorem dX5_adversary_134 : decode cX5_adversary 134 = .ok (.iload 6, 2) := by decide +kernel
theorem dX5_adversary_136 : decode cX5_adversary 136 = .ok (.istore 5, 2) := by decide +kernel
theorem dX5_adversary_138 : decode cX5_adversary 138 = .ok (.iinc 6 1, 3) := by decide +kernel
theorem dX5_adversary_141 : decode cX5_adversary 141 = .ok (.goto (-78), 3) := by decide +kernel
theorem dX5_adversary_144 : decode cX5_adversary 144 = .ok (.iload_n 3, 1) := by decide +kernel
theorem dX5_adversary_145 : decode cX5_adversary 145 = .ok (.ifCond .ne 8, 3) := by decide +kernel
theorem dX5_adversary_148 : decode cX5_adversary 148 = .ok (.iload 4, 2) := by decide +kernel
theorem dX5_adversary_150 : decode cX5_adversary 150 = .ok (.goto 5, 3) := by decide +kernel
theorem dX5_adversary_153 : decode cX5_adversary 153 = .ok (.iload 5, 2) := by decide +kernel
theorem dX5_adversary_155 : decode cX5_adversary 155 = .ok (.ireturn, 1) := by decide +kernel
set_option maxRecDepth 20000 in
theorem ggX5_undo_X4_copyFrom : GoodIn wsX5_undo wsX4_copyFrom := goodIn_r _ [11, 12, 13, 14, 15, 16, 17, 18, 19, 20, 39, 40, 41, 42, 43] (by decide +kernel) (by decide +kernel)
set_option maxRecDepth 20000 in
theorem gX5_undo_X4_copyFrom : GoodIn wsX5_undo (wsV RX5 257 RX4 yX4_copyFrom wsX4_copyFrom) := goodIn_app (goodIn_of _ (by decide +kernel)) ggX5_undo_X4_copyFrom
theorem dX5_undo_0 : decode cX5_undo 0 = .ok (.aload_n 0, 1) := by decide +kernel
theorem dX5_undo_1 : decode cX5_undo 1 = .ok (.getfield 20, 3) := by decide +kernel
theorem dX5_undo_4 : decode cX5_undo 4 = .ok (.ifCond .ne 6, 3) := by decide +kernel
theorem dX5_undo_7 : decode cX5_undo 7 = .ok (.bipush (-5), 2) := by decide +kernel
theorem dX5_undo_9 : decode cX5_undo 9 = .ok (.ireturn, 1) := by decide +kernel
theorem dX5_undo_10 : decode cX5_undo 10 = .ok (.aload_n 0, 1) := by decide +kernel
theorem dX5_undo_11 : decode cX5_undo 11 = .ok (.aload_n 0, 1) := by decide +kernel
theorem dX5_undo_12 : decode cX5_undo 12 = .ok (.getfield 24, 3) := by decide +kernel
theorem dX5_undo_15 : decode cX5_undo 15 = .ok (.ifCond .ne 8, 3) := by decide +kernel
theorem dX5_undo_18 : decode cX5_undo 18 = .ok (.bipush 11, 2) := by decide +kernel
theorem dX5_undo_20 : decode cX5_undo 20 = .ok (.goto 9, 3) := by decide +kernel
theorem dX5_undo_23 : decode cX5_undo 23 = .ok (.aload_n 0, 1) := by decide +kernel
theorem dX5_undo_24 : decode cX5_undo 24 = .ok (.getfield 24, 3) := by decide +kernel
theorem dX5_undo_27 : decode cX5_undo 27 = .ok (.iconst 1, 1) := by decide +kernel
theorem dX5_undo_28 : decode cX5_undo 28 = .ok (.isub, 1) := by decide +kernel
theorem dX5_undo_29 : decode cX5_undo 29 = .ok (.putfield 24, 3) := by decide +kernel
theorem dX5_undo_32 : decode cX5_undo 32 = .ok (.aload_n 0, 1) := by decide +kernel
theorem dX5_undo_33 : decode cX5_undo 33 = .ok (.dup, 1) := by decide +kernel
theorem dX5_undo_34 : decode cX5_undo 34 = .ok (.getfield 20, 3) := by decide +kernel
theorem dX5_undo_37 : decode cX5_undo 37 = .ok (.iconst 1, 1) := by decide +kernel
theorem dX5_undo_38 : decode cX5_undo 38 = .ok (.isub, 1) := by decide +kernel
theorem dX5_undo_39 : decode cX5_undo 39 = .ok (.putfield 20, 3) := by decide +kernel
theorem dX5_undo_42 : decode cX5_undo 42 = .ok (.aload_n 0, 1) := by decide +kernel
theorem dX5_undo_43 : decode cX5_undo 43 = .ok (.getfield 10, 3) := by decide +kernel
theorem dX5_undo_46 : decode cX5_undo 46 = .ok (.aload_n 0, 1) := by decide +kernel
theorem dX5_undo_47 : decode cX5_undo 47 = .ok (.getfield 16, 3) := by decide +kernel
theorem dX5_undo_50 : decode cX5_undo 50 = .ok (.aload_n 0, 1) := by decide +kernel
theorem dX5_undo_51 : decode cX5_undo 51 = .ok (.getfield 24, 3) := by decide +kernel
theorem dX5_undo_54 : decode cX5_undo 54 = .ok (.aaload, 1) := by decide +kernel
theorem dX5_undo_55 : decode cX5_undo 55 = .ok (.invokevirtual 257, 3) := by decide +kernel
theorem dX5_undo_58 : decode cX5_undo 58 = .ok (.aload_n 0, 1) := by decide +kernel
theorem dX5_undo_59 : decode cX5_undo 59 = .ok (.getfield 37, 3) := by decide +kernel
theorem dX5_undo_62 : decode cX5_undo 62 = .ok (.iconst 0, 1) := by decide +kernel
theorem dX5_undo_63 : decode cX5_undo 63 = .ok (.putfield 191, 3) := by decide +kernel
theorem dX5_undo_66 : decode cX5_undo 66 = .ok (.aload_n 0, 1) := by decide +kernel
theorem dX5_undo_67 : decode cX5_undo 67 = .ok (.getfield 20, 3) := by decide +kernel
theorem dX5_undo_70 : decode cX5_undo 70 = .ok (.ireturn, 1) := by decide +kernel
set_option maxRecDepth 20000 in
theorem ggX5_count_X4_bitsIn : GoodIn wsX5_count wsX4_bitsIn := goodIn_r _ [13, 14, 15, 16, 17, 18, 19, 20, 21, 30, 31, 32, 33, 34] (by decide +kernel) (by decide +kernel)
set_option maxRecDepth 20000 in
theorem gX5_count_X4_bitsIn : GoodIn wsX5_count (wsV RX5 261 RX4 yX4_bitsIn wsX4_bitsIn) := goodIn_app (goodIn_of _ (by decide +kernel)) ggX5_count_X4_bitsIn
theorem dX5_count_0 : decode cX5_count 0 = .ok (.iload_n 1, 1) := by decide +kernel
theorem dX5_count_1 : decode cX5_count 1 = .ok (.tableswitch 112 0 7 #[47, 55, 55, 55, 67, 84, 99, 107], 47) := by decide +kernel
theorem dX5_count_48 : decode cX5_count 48 = .ok (.aload_n 0, 1) := by decide +kernel
theorem dX5_count_49 : decode cX5_count 49 = .ok (.getfield 10, 3) := by decide +kernel
theorem dX5_count_52 : decode cX5_count 52 = .ok (.getfield 59, 3) := by decide +kernel
theorem dX5_count_55 : decode cX5_count 55 = .ok (.ireturn, 1) := by decide +kernel
theorem dX5_count_56 : decode cX5_count 56 = .ok (.aload_n 0, 1) := by decide +kernel
theorem dX5_count_57 : decode cX5_count 57 = .ok (.getfield 10, 3) := by decide +kernel
theorem dX5_count_60 : decode cX5_count 60 = .ok (.getfield 102, 3) := by decide +kernel
theorem dX5_count_63 : decode cX5_count 63 = .ok (.iload_n 1, 1) := by decide +kernel
theorem dX5_count_64 : decode cX5_count 64 = .ok (.iconst 1, 1) := by decide +kernel
theorem dX5_count_65 : decode cX5_count 65 = .ok (.isub, 1) := by decide +kernel
theorem dX5_count_66 : decode cX5_count 66 = .ok (.iaload, 1) := by decide +kernel
theorem dX5_count_67 : decode cX5_count 67 = .ok (.ireturn, 1) := by decide +kernel
theorem dX5_count_68 : decode cX5_count 68 = .ok (.aload_n 0, 1) := by decide +kernel
theorem dX5_count_69 : decode cX5_count 69 = .ok (.getfield 10, 3) := by decide +kernel
theorem dX5_count_72 : decode cX5_count 72 = .ok (.aload_n 0, 1) := by decide +kernel
theorem dX5_count_73 : decode cX5_count 73 = .ok (.getfield 10, 3) := by decide +kernel
theorem dX5_count_76 : decode cX5_count 76 = .ok (.getfield 85, 3) := by decide +kernel
theorem dX5_count_79 : decode cX5_count 79 = .ok (.invokevirtual 261, 3) := by decide +kernel
theorem dX5_count_82 : decode cX5_count 82 = .ok (.iconst 2, 1) := by decide +kernel
theorem dX5_count_83 : decode cX5_count 83 = .ok (.idiv, 1) := by decide +kernel
theorem dX5_count_84 : decode cX5_count 84 = .ok (.ireturn, 1) := by decide +kernel
theorem dX5_count_85 : decode cX5_count 85 = .ok (.aload_n 0, 1) := by decide +kernel
theorem dX5_count_86 : decode cX5_count 86 = .ok (.getfield 10, 3) := by decide +kernel
theorem dX5_count_89 : decode cX5_count 89 = .ok (.aload_n 0, 1) := by decide +kernel
theorem dX5_count_90 : decode cX5_count 90 = .ok (.getfield 10, 3) := by decide +kernel
theorem dX5_count_93 : decode cX5_count 93 = .ok (.getfield 89, 3) := by decide +kernel
theorem dX5_count_96 : decode cX5_count 96 = .ok (.invokevirtual 261, 3) := by decide +kernel
theorem dX5_count_99 : decode cX5_count 99 = .ok (.ireturn, 1) := by decide +kernel
theorem dX5_count_100 : decode cX5_count 100 = .ok (.aload_n 0, 1) := by decide +kernel
theorem dX5_count_101 : decode cX5_count 101 = .ok (.getfield 30, 3) := by decide +kernel
theorem dX5_count_104 : decode cX5_count 104 = .ok (.getfield 109, 3) := by decide +kernel
theorem dX5_count_107 : decode cX5_count 107 = .ok (.ireturn, 1) := by decide +kernel
theorem dX5_count_108 : decode cX5_count 108 = .ok (.aload_n 0, 1) := by decide +kernel
theorem dX5_count_109 : decode cX5_count 109 = .ok (.getfield 20, 3) := by decide +kernel
theorem dX5_count_112 : decode cX5_count 112 = .ok (.ireturn, 1) := by decide +kernel
theorem dX5_count_113 : decode cX5_count 113 = .ok (.bipush (-2), 2) := by decide +kernel
theorem dX5_count_115 : decode cX5_count 115 = .ok (.ireturn, 1) := by decide +kernel
set_option maxRecDepth 20000 in
theorem ggX5_remember_X4_copyFrom : GoodIn wsX5_remember wsX4_copyFrom := goodIn_r _ [15, 16, 17, 18, 19, 20, 21, 22, 23, 24, 43, 44, 45, 46, 47] (by decide +kernel) (by decide +kernel)
set_option maxRecDepth 20000 in
theorem gX5_remember_X4_copyFrom : GoodIn wsX5_remember (wsV RX5 257 RX4 yX4_copyFrom wsX4_copyFrom) := goodIn_app (goodIn_of _ (by decide +kernel)) ggX5_remember_X4_copyFrom
theorem dX5_remember_0 : decode cX5_remember 0 = .ok (.aload_n 0, 1) := by decide +kernel
theorem dX5_remember_1 : decode cX5_remember 1 = .ok (.getfield 16, 3) := by decide +kernel
theorem dX5_remember_4 : decode cX5_remember 4 = .ok (.aload_n 0, 1) := by decide +kernel
theorem dX5_remember_5 : decode cX5_remember 5 = .ok (.getfield 24, 3) := by decide +kernel
theorem dX5_remember_8 : decode cX5_remember 8 = .ok (.aaload, 1) := by decide +kernel
theorem dX5_remember_9 : decode cX5_remember 9 = .ok (.aload_n 0, 1) := by decide +kernel
theorem dX5_remember_10 : decode cX5_remember 10 = .ok (.getfield 10, 3) := by decide +kernel
theorem dX5_remember_13 : decode cX5_remember 13 = .ok (.invokevirtual 257, 3) := by decide +kernel
theorem dX5_remember_16 : decode cX5_remember 16 = .ok (.aload_n 0, 1) := by decide +kernel
theorem dX5_remember_17 : decode cX5_remember 17 = .ok (.aload_n 0, 1) := by decide +kernel
theorem dX5_remember_18 : decode cX5_remember 18 = .ok (.getfield 24, 3) := by decide +kernel
theorem dX5_remember_21 : decode cX5_remember 21 = .ok (.bipush 11, 2) := by decide +kernel
theorem dX5_remember_23 : decode cX5_remember 23 = .ok (.if_icmp .ne 7, 3) := by decide +kernel
theorem dX5_remember_26 : decode cX5_remember 26 = .ok (.iconst 0, 1) := by decide +kernel
theorem dX5_remember_27 : decode cX5_remember 27 = .ok (.goto 9, 3) := by decide +kernel
theorem dX5_remember_30 : decode cX5_remember 30 = .ok (.aload_n 0, 1) := by decide +kernel
theorem dX5_remember_31 : decode cX5_remember 31 = .ok (.getfield 24, 3) := by decide +kernel
theorem dX5_remember_34 : decode cX5_remember 34 = .ok (.iconst 1, 1) := by decide +kernel
theorem dX5_remember_35 : decode cX5_remember 35 = .ok (.iadd, 1) := by decide +kernel
theorem dX5_remember_36 : decode cX5_remember 36 = .ok (.putfield 24, 3) := by decide +kernel
theorem dX5_remember_39 : decode cX5_remember 39 = .ok (.aload_n 0, 1) := by decide +kernel
theorem dX5_remember_40 : decode cX5_remember 40 = .ok (.aload_n 0, 1) := by decide +kernel
theorem dX5_remember_41 : decode cX5_remember 41 = .ok (.getfield 20, 3) := by decide +kernel
theorem dX5_remember_44 : decode cX5_remember 44 = .ok (.iconst 1, 1) := by decide +kernel
theorem dX5_remember_45 : decode cX5_remember 45 = .ok (.iadd, 1) := by decide +kernel
theorem dX5_remember_46 : decode cX5_remember 46 = .ok (.bipush 12, 2) := by decide +kernel
theorem dX5_remember_48 : decode cX5_remember 48 = .ok (.invokestatic 265, 3) := by decide +kernel
theorem dX5_remember_51 : decode cX5_remember 51 = .ok (.putfield 20, 3) := by decide +kernel
theorem dX5_remember_54 : decode cX5_remember 54 = .ok (.aload_n 0, 1) := by decide +kernel
theorem dX5_remember_55 : decode cX5_remember 55 = .ok (.getfield 37, 3) := by decide +kernel
theorem dX5_remember_58 : decode cX5_remember 58 = .ok (.iconst 0, 1) := by decide +kernel
theorem dX5_remember_59 : decode cX5_remember 59 = .ok (.putfield 191, 3) := by decide +kernel
theorem dX5_remember_62 : decode cX5_remember 62 = .ok (.return_, 1) := by decide +kernel
set_option maxRecDepth 20000 in
theorem ggX5_prepare_X5_budget : GoodIn wsX5_prepare wsX5_budget := goodIn_r _ [8, 3, 9, 55, 56, 57, 58, 59, 60, 61, 62, 73, 74, 75, 76, 77] (by decide +kernel) (by decide +kernel)
set_option maxRecDepth 20000 in
theorem gX5_prepare_X5_budget : GoodIn wsX5_prepare (wsV RX5 134 RX5 yX5_budget wsX5_budget) := goodIn_app (goodIn_of _ (by decide +kernel)) ggX5_prepare_X5_budget
set_option maxRecDepth 20000 in
theorem ggX5_prepare_X0_fill : GoodIn wsX5_prepare wsX0_fill := goodIn_r _ [14, 15, 16, 17, 18, 19, 20, 21, 22, 23, 24, 13, 25, 26, 27, 28, 29, 30, 31, 32, 33, 34, 35, 36, 37, 38, 39, 7, 40, 41, 42, 43, 44, 45, 46, 47, 48, 49, 50, 51, 52, 53, 54, 73, 74, 75, 76, 77, 63, 64, 65, 66, 67, 68, 69, 70, 71, 72] (by decide +kernel) (by decide +kernel)
set_option maxRecDepth 20000 in
theorem gX5_prepare_X0_fill : GoodIn wsX5_prepare (wsV RX5 187 RX0 yX0_fill wsX0_fill) := goodIn_app (goodIn_of _ (by decide +kernel)) ggX5_prepare_X0_fill
theorem dX5_prepare_0 : decode cX5_prepare 0 = .ok (.aload_n 0, 1) := by decide +kernel
theorem dX5_prepare_1 : decode cX5_prepare 1 = .ok (.getfield 37, 3) := by decide +kernel
theorem dX5_prepare_4 : decode cX5_prepare 4 = .ok (.getfield 191, 3) := by decide +kernel
theorem dX5_prepare_7 : decode cX5_prepare 7 = .ok (.ifCond .ne 32, 3) := by decide +kernel
theorem dX5_prepare_10 : decode cX5_prepare 10 = .ok (.aload_n 0, 1) := by decide +kernel
theorem dX5_prepare_11 : decode cX5_prepare 11 = .ok (.getfield 37, 3) := by decide +kernel
theorem dX5_prepare_14 : decode cX5_prepare 14 = .ok (.aload_n 0, 1) := by decide +kernel
theorem dX5_prepare_15 : decode cX5_prepare 15 = .ok (.getfield 10, 3) := by decide +kernel
theorem dX5_prepare_18 : decode cX5_prepare 18 = .ok (.aload_n 0, 1) := by decide +kernel
theorem dX5_prepare_19 : decode cX5_prepare 19 = .ok (.iconst 1, 1) := by decide +kernel
theorem dX5_prepare_20 : decode cX5_prepare 20 = .ok (.invokevirtual 134, 3) := by decide +kernel
theorem dX5_prepare_23 : decode cX5_prepare 23 = .ok (.aload_n 0, 1) := by decide +kernel
theorem dX5_prepare_24 : decode cX5_prepare 24 = .ok (.iconst 2, 1) := by decide +kernel
theorem dX5_prepare_25 : decode cX5_prepare 25 = .ok (.invokevirtual 134, 3) := by decide +kernel
theorem dX5_prepare_28 : decode cX5_prepare 28 = .ok (.invokevirtual 187, 3) := by decide +kernel
theorem dX5_prepare_31 : decode cX5_prepare 31 = .ok (.aload_n 0, 1) := by decide +kernel
theorem dX5_prepare_32 : decode cX5_prepare 32 = .ok (.getfield 37, 3) := by decide +kernel
theorem dX5_prepare_35 : decode cX5_prepare 35 = .ok (.iconst 1, 1) := by decide +kernel
theorem dX5_prepare_36 : decode cX5_prepare 36 = .ok (.putfield 191, 3) := by decide +kernel
theorem dX5_prepare_39 : decode cX5_prepare 39 = .ok (.return_, 1) := by decide +kernel
theorem dX5_capacity_0 : decode cX5_capacity 0 = .ok (.aload_n 0, 1) := by decide +kernel
theorem dX5_capacity_1 : decode cX5_capacity 1 = .ok (.getfield 10, 3) := by decide +kernel
theorem dX5_capacity_4 : decode cX5_capacity 4 = .ok (.getfield 102, 3) := by decide +kernel
theorem dX5_capacity_7 : decode cX5_capacity 7 = .ok (.iconst 0, 1) := by decide +kernel
theorem dX5_capacity_8 : decode cX5_capacity 8 = .ok (.iaload, 1) := by decide +kernel
theorem dX5_capacity_9 : decode cX5_capacity 9 = .ok (.ireturn, 1) := by decide +kernel
theorem dX5_budget_0 : decode cX5_budget 0 = .ok (.aload_n 0, 1) := by decide +kernel
theorem dX5_budget_1 : decode cX5_budget 1 = .ok (.getfield 10, 3) := by decide +kernel
theorem dX5_budget_4 : decode cX5_budget 4 = .ok (.getfield 102, 3) := by decide +kernel
theorem dX5_budget_7 : decode cX5_budget 7 = .ok (.iload_n 1, 1) := by decide +kernel
theorem dX5_budget_8 : decode cX5_budget 8 = .ok (.iaload, 1) := by decide +kernel
theorem dX5_budget_9 : decode cX5_budget 9 = .ok (.ireturn, 1) := by decide +kernel
theorem dX5_exists_0 : decode cX5_exists 0 = .ok (.iload_n 1, 1) := by decide +kernel
theorem dX5_exists_1 : decode cX5_exists 1 = .ok (.ifCond .lt 18, 3) := by decide +kernel
theorem dX5_exists_4 : decode cX5_exists 4 = .ok (.iload_n 1, 1) := by decide +kernel
theorem dX5_exists_5 : decode cX5_exists 5 = .ok (.aload_n 0, 1) := by decide +kernel
theorem dX5_exists_6 : decode cX5_exists 6 = .ok (.getfield 10, 3) := by decide +kernel
theorem dX5_exists_9 : decode cX5_exists 9 = .ok (.getfield 59, 3) := by decide +kernel
theorem dX5_exists_12 : decode cX5_exists 12 = .ok (.if_icmp .ge 7, 3) := by decide +kernel
theorem dX5_exists_15 : decode cX5_exists 15 = .ok (.iconst 1, 1) := by decide +kernel
theorem dX5_exists_16 : decode cX5_exists 16 = .ok (.goto 4, 3) := by decide +kernel
theorem dX5_exists_19 : decode cX5_exists 19 = .ok (.iconst 0, 1) := by decide +kernel
theorem dX5_exists_20 : decode cX5_exists 20 = .ok (.ireturn, 1) := by decide +kernel
set_option maxRecDepth 20000 in
theorem ggX5_pairError_X5_exists : GoodIn wsX5_pairError wsX5_exists := goodIn_r _ [5, 6, 7, 8, 9, 10, 11, 12, 13, 14, 15, 16, 17, 18, 19, 20] (by decide +kernel) (by decide +kernel)
set_option maxRecDepth 20000 in
theorem gX5_pairError_X5_exists : GoodIn wsX5_pairError (wsV RX5 69 RX5 yX5_exists wsX5_exists) := goodIn_app (goodIn_of _ (by decide +kernel)) ggX5_pairError_X5_exists
theorem dX5_pairError_0 : decode cX5_pairError 0 = .ok (.aload_n 0, 1) := by decide +kernel
theorem dX5_pairError_1 : decode cX5_pairError 1 = .ok (.iload_n 1, 1) := by decide +kernel
theorem dX5_pairError_2 : decode cX5_pairError 2 = .ok (.invokevirtual 69, 3) := by decide +kernel
theorem dX5_pairError_5 : decode cX5_pairError 5 = .ok (.ifCond .eq 11, 3) := by decide +kernel
theorem dX5_pairError_8 : decode cX5_pairError 8 = .ok (.aload_n 0, 1) := by decide +kernel
theorem dX5_pairError_9 : decode cX5_pairError 9 = .ok (.iload_n 2, 1) := by decide +kernel
theorem dX5_pairError_10 : decode cX5_pairError 10 = .ok (.invokevirtual 69, 3) := by decide +kernel
theorem dX5_pairError_13 : decode cX5_pairError 13 = .ok (.ifCond .ne 5, 3) := by decide +kernel
theorem dX5_pairError_16 : decode cX5_pairError 16 = .ok (.iconst (-1), 1) := by decide +kernel
theorem dX5_pairError_17 : decode cX5_pairError 17 = .ok (.ireturn, 1) := by decide +kernel
theorem dX5_pairError_18 : decode cX5_pairError 18 = .ok (.iload_n 1, 1) := by decide +kernel
theorem dX5_pairError_19 : decode cX5_pairError 19 = .ok (.iload_n 2, 1) := by decide +kernel
theorem dX5_pairError_20 : decode cX5_pairError 20 = .ok (.if_icmp .ne 8, 3) := by decide +kernel
theorem dX5_pairError_23 : decode cX5_pairError 23 = .ok (.bipush (-2), 2) := by decide +kernel
theorem dX5_pairError_25 : decode cX5_pairError 25 = .ok (.goto 4, 3) := by decide +kernel
theorem dX5_pairError_28 : decode cX5_pairError 28 = .ok (.iconst 0, 1) := by decide +kernel
theorem dX5_pairError_29 : decode cX5_pairError 29 = .ok (.ireturn, 1) := by decide +kernel
theorem dX5_isChoice_0 : decode cX5_isChoice 0 = .ok (.iload_n 1, 1) := by decide +kernel
theorem dX5_isChoice_1 : decode cX5_isChoice 1 = .ok (.ifCond .lt 20, 3) := by decide +kernel
theorem dX5_isChoice_4 : decode cX5_isChoice 4 = .ok (.iload_n 1, 1) := by decide +kernel
theorem dX5_isChoice_5 : decode cX5_isChoice 5 = .ok (.iconst 1, 1) := by decide +kernel
theorem dX5_isChoice_6 : decode cX5_isChoice 6 = .ok (.aload_n 0, 1) := by decide +kernel
theorem dX5_isChoice_7 : decode cX5_isChoice 7 = .ok (.getfield 10, 3) := by decide +kernel
theorem dX5_isChoice_10 : decode cX5_isChoice 10 = .ok (.getfield 59, 3) := by decide +kernel
theorem dX5_isChoice_13 : decode cX5_isChoice 13 = .ok (.ishl, 1) := by decide +kernel
theorem dX5_isChoice_14 : decode cX5_isChoice 14 = .ok (.if_icmp .ge 7, 3) := by decide +kernel
theorem dX5_isChoice_17 : decode cX5_isChoice 17 = .ok (.iconst 1, 1) := by decide +kernel
theorem dX5_isChoice_18 : decode cX5_isChoice 18 = .ok (.goto 4, 3) := by decide +kernel
theorem dX5_isChoice_21 : decode cX5_isChoice 21 = .ok (.iconst 0, 1) := by decide +kernel
theorem dX5_isChoice_22 : decode cX5_isChoice 22 = .ok (.ireturn, 1) := by decide +kernel
theorem dX5_isLevel_0 : decode cX5_isLevel 0 = .ok (.iload_n 1, 1) := by decide +kernel
theorem dX5_isLevel_1 : decode cX5_isLevel 1 = .ok (.ifCond .lt 18, 3) := by decide +kernel
theorem dX5_isLevel_4 : decode cX5_isLevel 4 = .ok (.iload_n 1, 1) := by decide +kernel
theorem dX5_isLevel_5 : decode cX5_isLevel 5 = .ok (.aload_n 0, 1) := by decide +kernel
theorem dX5_isLevel_6 : decode cX5_isLevel 6 = .ok (.getfield 10, 3) := by decide +kernel
theorem dX5_isLevel_9 : decode cX5_isLevel 9 = .ok (.getfield 59, 3) := by decide +kernel
theorem dX5_isLevel_12 : decode cX5_isLevel 12 = .ok (.if_icmp .gt 7, 3) := by decide +kernel
theorem dX5_isLevel_15 : decode cX5_isLevel 15 = .ok (.iconst 1, 1) := by decide +kernel
theorem dX5_isLevel_16 : decode cX5_isLevel 16 = .ok (.goto 4, 3) := by decide +kernel
theorem dX5_isLevel_19 : decode cX5_isLevel 19 = .ok (.iconst 0, 1) := by decide +kernel
theorem dX5_isLevel_20 : decode cX5_isLevel 20 = .ok (.ireturn, 1) := by decide +kernel
theorem dX5_isBudget_0 : decode cX5_isBudget 0 = .ok (.iload_n 0, 1) := by decide +kernel
theorem dX5_isBudget_1 : decode cX5_isBudget 1 = .ok (.ifCond .lt 13, 3) := by decide +kernel
theorem dX5_isBudget_4 : decode cX5_isBudget 4 = .ok (.iload_n 0, 1) := by decide +kernel
theorem dX5_isBudget_5 : decode cX5_isBudget 5 = .ok (.bipush 12, 2) := by decide +kernel
theorem dX5_isBudget_7 : decode cX5_isBudget 7 = .ok (.if_icmp .gt 7, 3) := by decide +kernel
theorem dX5_isBudget_10 : decode cX5_isBudget 10 = .ok (.iconst 1, 1) := by decide +kernel
theorem dX5_isBudget_11 : decode cX5_isBudget 11 = .ok (.goto 4, 3) := by decide +kernel
theorem dX5_isBudget_14 : decode cX5_isBudget 14 = .ok (.iconst 0, 1) := by decide +kernel
theorem dX5_isBudget_15 : decode cX5_isBudget 15 = .ok (.ireturn, 1) := by decide +kernel
theorem dX5_inRange_0 : decode cX5_inRange 0 = .ok (.iload_n 1, 1) := by decide +kernel
theorem dX5_inRange_1 : decode cX5_inRange 1 = .ok (.getstatic 270, 3) := by decide +kernel
theorem dX5_inRange_4 : decode cX5_inRange 4 = .ok (.iload_n 0, 1) := by decide +kernel
theorem dX5_inRange_5 : decode cX5_inRange 5 = .ok (.iaload, 1) := by decide +kernel
theorem dX5_inRange_6 : decode cX5_inRange 6 = .ok (.if_icmp .lt 16, 3) := by decide +kernel
theorem dX5_inRange_9 : decode cX5_inRange 9 = .ok (.iload_n 1, 1) := by decide +kernel
theorem dX5_inRange_10 : decode cX5_inRange 10 = .ok (.getstatic 273, 3) := by decide +kernel
theorem dX5_inRange_13 : decode cX5_inRange 13 = .ok (.iload_n 0, 1) := by decide +kernel
theorem dX5_inRange_14 : decode cX5_inRange 14 = .ok (.iaload, 1) := by decide +kernel
theorem dX5_inRange_15 : decode cX5_inRange 15 = .ok (.if_icmp .gt 7, 3) := by decide +kernel
theorem dX5_inRange_18 : decode cX5_inRange 18 = .ok (.iconst 1, 1) := by decide +kernel
theorem dX5_inRange_19 : decode cX5_inRange 19 = .ok (.goto 4, 3) := by decide +kernel
theorem dX5_inRange_22 : decode cX5_inRange 22 = .ok (.iconst 0, 1) := by decide +kernel
theorem dX5_inRange_23 : decode cX5_inRange 23 = .ok (.ireturn, 1) := by decide +kernel
theorem dX5_propertyOf_0 : decode cX5_propertyOf 0 = .ok (.aload_n 0, 1) := by decide +kernel
theorem dX5_propertyOf_1 : decode cX5_propertyOf 1 = .ok (.getfield 10, 3) := by decide +kernel
theorem dX5_propertyOf_4 : decode cX5_propertyOf 4 = .ok (.getfield 81, 3) := by decide +kernel
theorem dX5_propertyOf_7 : decode cX5_propertyOf 7 = .ok (.iload_n 2, 1) := by decide +kernel
theorem dX5_propertyOf_8 : decode cX5_propertyOf 8 = .ok (.aaload, 1) := by decide +kernel
theorem dX5_propertyOf_9 : decode cX5_propertyOf 9 = .ok (.iload_n 1, 1) := by decide +kernel
theorem dX5_propertyOf_10 : decode cX5_propertyOf 10 = .ok (.iaload, 1) := by decide +kernel
theorem dX5_propertyOf_11 : decode cX5_propertyOf 11 = .ok (.istore_n 3, 1) := by decide +kernel
theorem dX5_propertyOf_12 : decode cX5_propertyOf 12 = .ok (.iload_n 2, 1) := by decide +kernel
theorem dX5_propertyOf_13 : decode cX5_propertyOf 13 = .ok (.iconst 4, 1) := by decide +kernel
theorem dX5_propertyOf_14 : decode cX5_propertyOf 14 = .ok (.if_icmp .ne 13, 3) := by decide +kernel
theorem dX5_propertyOf_17 : decode cX5_propertyOf 17 = .ok (.iload_n 3, 1) := by decide +kernel
theorem dX5_propertyOf_18 : decode cX5_propertyOf 18 = .ok (.iconst (-1), 1) := by decide +kernel
theorem dX5_propertyOf_19 : decode cX5_propertyOf 19 = .ok (.if_icmp .ne 8, 3) := by decide +kernel
theorem dX5_propertyOf_22 : decode cX5_propertyOf 22 = .ok (.bipush (-6), 2) := by decide +kernel
theorem dX5_propertyOf_24 : decode cX5_propertyOf 24 = .ok (.goto 4, 3) := by decide +kernel
theorem dX5_propertyOf_27 : decode cX5_propertyOf 27 = .ok (.iload_n 3, 1) := by decide +kernel
theorem dX5_propertyOf_28 : decode cX5_propertyOf 28 = .ok (.ireturn, 1) := by decide +kernel
set_option maxRecDepth 20000 in
theorem ggX5_protectedWeight_X4_worst : GoodIn wsX5_protectedWeight wsX4_worst := goodIn_r _ [6, 7, 8, 25, 26, 27, 28, 29] (by decide +kernel) (by decide +kernel)
set_option maxRecDepth 20000 in
theorem gX5_protectedWeight_X4_worst : GoodIn wsX5_protectedWeight (wsV RX5 157 RX4 yX4_worst wsX4_worst) := goodIn_app (goodIn_of _ (by decide +kernel)) ggX5_protectedWeight_X4_worst
set_option maxRecDepth 20000 in
theorem ggX5_protectedWeight_X4_weightUnder : GoodIn wsX5_protectedWeight wsX4_weightUnder := goodIn_r _ [12, 13, 14, 15, 5, 16, 7, 8, 25, 26, 27, 28, 29] (by decide +kernel) (by decide +kernel)
set_option maxRecDepth 20000 in
theorem gX5_protectedWeight_X4_weightUnder : GoodIn wsX5_protectedWeight (wsV RX5 131 RX4 yX4_weightUnder wsX4_weightUnder) := goodIn_app (goodIn_of _ (by decide +kernel)) ggX5_protectedWeight_X4_weightUnder
theorem dX5_protectedWeight_0 : decode cX5_protectedWeight 0 = .ok (.aload_n 0, 1) := by decide +kernel
theorem dX5_protectedWeight_1 : decode cX5_protectedWeight 1 = .ok (.getfield 10, 3) := by decide +kernel
theorem dX5_protectedWeight_4 : decode cX5_protectedWeight 4 = .ok (.iload_n 1, 1) := by decide +kernel
theorem dX5_protectedWeight_5 : decode cX5_protectedWeight 5 = .ok (.aload_n 0, 1) := by decide +kernel
theorem dX5_protectedWeight_6 : decode cX5_protectedWeight 6 = .ok (.getfield 10, 3) := by decide +kernel
theorem dX5_protectedWeight_9 : decode cX5_protectedWeight 9 = .ok (.iload_n 1, 1) := by decide +kernel
theorem dX5_protectedWeight_10 : decode cX5_protectedWeight 10 = .ok (.iconst 2, 1) := by decide +kernel
theorem dX5_protectedWeight_11 : decode cX5_protectedWeight 11 = .ok (.iload_n 2, 1) := by decide +kernel
theorem dX5_protectedWeight_12 : decode cX5_protectedWeight 12 = .ok (.invokevirtual 157, 3) := by decide +kernel
theorem dX5_protectedWeight_15 : decode cX5_protectedWeight 15 = .ok (.invokevirtual 131, 3) := by decide +kernel
theorem dX5_protectedWeight_18 : decode cX5_protectedWeight 18 = .ok (.ireturn, 1) := by decide +kernel
set_option maxRecDepth 20000 in
theorem ggX5_worstProfitScenario_X5_budget : GoodIn wsX5_worstProfitScenario wsX5_budget := goodIn_r _ [6, 1, 7, 15, 16, 17, 18, 19, 20, 21, 22, 23, 24, 25, 26, 27] (by decide +kernel) (by decide +kernel)
set_option maxRecDepth 20000 in
theorem gX5_worstProfitScenario_X5_budget : GoodIn wsX5_worstProfitScenario (wsV RX5 134 RX5 yX5_budget wsX5_budget) := goodIn_app (goodIn_of _ (by decide +kernel)) ggX5_worstProfitScenario_X5_budget
set_option maxRecDepth 20000 in
theorem ggX5_worstProfitScenario_X4_worst : GoodIn wsX5_worstProfitScenario wsX4_worst := goodIn_r _ [12, 13, 14, 23, 24, 25, 26, 27] (by decide +kernel) (by decide +kernel)
set_option maxRecDepth 20000 in
theorem gX5_worstProfitScenario_X4_worst : GoodIn wsX5_worstProfitScenario (wsV RX5 157 RX4 yX4_worst wsX4_worst) := goodIn_app (goodIn_of _ (by decide +kernel)) ggX5_worstProfitScenario_X4_worst
theorem dX5_worstProfitScenario_0 : decode cX5_worstProfitScenario 0 = .ok (.aload_n 0, 1) := by decide +kernel
theorem dX5_worstProfitScenario_1 : decode cX5_worstProfitScenario 1 = .ok (.getfield 10, 3) := by decide +kernel
theorem dX5_worstProfitScenario_4 : decode cX5_worstProfitScenario 4 = .ok (.iload_n 1, 1) := by decide +kernel
theorem dX5_worstProfitScenario_5 : decode cX5_worstProfitScenario 5 = .ok (.iconst 3, 1) := by decide +kernel
theorem dX5_worstProfitScenario_6 : decode cX5_worstProfitScenario 6 = .ok (.aload_n 0, 1) := by decide +kernel
theorem dX5_worstProfitScenario_7 : decode cX5_worstProfitScenario 7 = .ok (.iconst 2, 1) := by decide +kernel
theorem dX5_worstProfitScenario_8 : decode cX5_worstProfitScenario 8 = .ok (.invokevirtual 134, 3) := by decide +kernel
theorem dX5_worstProfitScenario_11 : decode cX5_worstProfitScenario 11 = .ok (.invokevirtual 157, 3) := by decide +kernel
theorem dX5_worstProfitScenario_14 : decode cX5_worstProfitScenario 14 = .ok (.ireturn, 1) := by decide +kernel
set_option maxRecDepth 20000 in
theorem ggX5_greatestBudget_X5_protectedWeight : GoodIn wsX5_greatestBudget wsX5_protectedWeight := goodIn_r _ [5, 6, 7, 8, 9, 10, 11, 12, 13, 14, 15, 16, 17, 18, 19, 20, 21, 27, 28, 29, 30, 31, 32, 33, 34, 35, 36, 37, 38, 39] (by decide +kernel) (by decide +kernel)
set_option maxRecDepth 20000 in
theorem gX5_greatestBudget_X5_protectedWeight : GoodIn wsX5_greatestBudget (wsV RX5 137 RX5 yX5_protectedWeight wsX5_protectedWeight) := goodIn_app (goodIn_of _ (by decide +kernel)) ggX5_greatestBudget_X5_protectedWeight
set_option maxRecDepth 20000 in
theorem ggX5_greatestBudget_X5_capacity : GoodIn wsX5_greatestBudget wsX5_capacity := goodIn_r _ [25, 6, 26, 27, 28, 29, 30, 31, 32, 33, 34, 35, 36, 37, 38, 39] (by decide +kernel) (by decide +kernel)
set_option maxRecDepth 20000 in
theorem gX5_greatestBudget_X5_capacity : GoodIn wsX5_greatestBudget (wsV RX5 153 RX5 yX5_capacity wsX5_capacity) := goodIn_app (goodIn_of _ (by decide +kernel)) ggX5_greatestBudget_X5_capacity
theorem dX5_greatestBudget_0 : decode cX5_greatestBudget 0 = .ok (.bipush 12, 2) := by decide +kernel
theorem dX5_greatestBudget_2 : decode cX5_greatestBudget 2 = .ok (.istore_n 2, 1) := by decide +kernel
theorem dX5_greatestBudget_3 : decode cX5_greatestBudget 3 = .ok (.iload_n 2, 1) := by decide +kernel
theorem dX5_greatestBudget_4 : decode cX5_greatestBudget 4 = .ok (.ifCond .lt 24, 3) := by decide +kernel
theorem dX5_greatestBudget_7 : decode cX5_greatestBudget 7 = .ok (.aload_n 0, 1) := by decide +kernel
theorem dX5_greatestBudget_8 : decode cX5_greatestBudget 8 = .ok (.iload_n 1, 1) := by decide +kernel
theorem dX5_greatestBudget_9 : decode cX5_greatestBudget 9 = .ok (.iload_n 2, 1) := by decide +kernel
theorem dX5_greatestBudget_10 : decode cX5_greatestBudget 10 = .ok (.invokevirtual 137, 3) := by decide +kernel
theorem dX5_greatestBudget_13 : decode cX5_greatestBudget 13 = .ok (.aload_n 0, 1) := by decide +kernel
theorem dX5_greatestBudget_14 : decode cX5_greatestBudget 14 = .ok (.invokevirtual 153, 3) := by decide +kernel
theorem dX5_greatestBudget_17 : decode cX5_greatestBudget 17 = .ok (.if_icmp .gt 5, 3) := by decide +kernel
theorem dX5_greatestBudget_20 : decode cX5_greatestBudget 20 = .ok (.iload_n 2, 1) := by decide +kernel
theorem dX5_greatestBudget_21 : decode cX5_greatestBudget 21 = .ok (.ireturn, 1) := by decide +kernel
theorem dX5_greatestBudget_22 : decode cX5_greatestBudget 22 = .ok (.iinc 2 (-1), 3) := by decide +kernel
theorem dX5_greatestBudget_25 : decode cX5_greatestBudget 25 = .ok (.goto (-22), 3) := by decide +kernel
theorem dX5_greatestBudget_28 : decode cX5_greatestBudget 28 = .ok (.bipush (-6), 2) := by decide +kernel
theorem dX5_greatestBudget_30 : decode cX5_greatestBudget 30 = .ok (.ireturn, 1) := by decide +kernel
set_option maxRecDepth 20000 in
theorem ggX5_amongBest_X5_capacity : GoodIn wsX5_amongBest wsX5_capacity := goodIn_r _ [8, 9, 10, 22, 23, 24, 25, 26, 27, 28, 29, 40, 41, 42, 43, 44] (by decide +kernel) (by decide +kernel)
set_option maxRecDepth 20000 in
theorem gX5_amongBest_X5_capacity : GoodIn wsX5_amongBest (wsV RX5 153 RX5 yX5_capacity wsX5_capacity) := goodIn_app (goodIn_of _ (by decide +kernel)) ggX5_amongBest_X5_capacity
set_option maxRecDepth 20000 in
theorem ggX5_amongBest_X0_stands : GoodIn wsX5_amongBest wsX0_stands := goodIn_r _ [15, 16, 17, 18, 19, 14, 20, 21, 30, 31, 32, 33, 34, 35, 36, 37, 38, 39] (by decide +kernel) (by decide +kernel)
set_option maxRecDepth 20000 in
theorem gX5_amongBest_X0_stands : GoodIn wsX5_amongBest (wsV RX5 208 RX0 yX0_stands wsX0_stands) := goodIn_app (goodIn_of _ (by decide +kernel)) ggX5_amongBest_X0_stands
theorem dX5_amongBest_0 : decode cX5_amongBest 0 = .ok (.aload_n 0, 1) := by decide +kernel
theorem dX5_amongBest_1 : decode cX5_amongBest 1 = .ok (.getfield 37, 3) := by decide +kernel
theorem dX5_amongBest_4 : decode cX5_amongBest 4 = .ok (.getfield 195, 3) := by decide +kernel
theorem dX5_amongBest_7 : decode cX5_amongBest 7 = .ok (.iconst 1, 1) := by decide +kernel
theorem dX5_amongBest_8 : decode cX5_amongBest 8 = .ok (.isub, 1) := by decide +kernel
theorem dX5_amongBest_9 : decode cX5_amongBest 9 = .ok (.istore_n 3, 1) := by decide +kernel
theorem dX5_amongBest_10 : decode cX5_amongBest 10 = .ok (.iconst 0, 1) := by decide +kernel
theorem dX5_amongBest_11 : decode cX5_amongBest 11 = .ok (.istore 4, 2) := by decide +kernel
theorem dX5_amongBest_13 : decode cX5_amongBest 13 = .ok (.iload_n 3, 1) := by decide +kernel
theorem dX5_amongBest_14 : decode cX5_amongBest 14 = .ok (.istore 5, 2) := by decide +kernel
theorem dX5_amongBest_16 : decode cX5_amongBest 16 = .ok (.iconst 0, 1) := by decide +kernel
theorem dX5_amongBest_17 : decode cX5_amongBest 17 = .ok (.istore 6, 2) := by decide +kernel
theorem dX5_amongBest_19 : decode cX5_amongBest 19 = .ok (.iconst 0, 1) := by decide +kernel
theorem dX5_amongBest_20 : decode cX5_amongBest 20 = .ok (.istore 7, 2) := by decide +kernel
theorem dX5_amongBest_22 : decode cX5_amongBest 22 = .ok (.iload 7, 2) := by decide +kernel
theorem dX5_amongBest_24 : decode cX5_amongBest 24 = .ok (.aload_n 0, 1) := by decide +kernel
theorem dX5_amongBest_25 : decode cX5_amongBest 25 = .ok (.getfield 37, 3) := by decide +kernel
theorem dX5_amongBest_28 : decode cX5_amongBest 28 = .ok (.getfield 195, 3) := by decide +kernel
theorem dX5_amongBest_31 : decode cX5_amongBest 31 = .ok (.if_icmp .ge 64, 3) := by decide +kernel
theorem dX5_amongBest_34 : decode cX5_amongBest 34 = .ok (.aload_n 0, 1) := by decide +kernel
theorem dX5_amongBest_35 : decode cX5_amongBest 35 = .ok (.getfield 37, 3) := by decide +kernel
theorem dX5_amongBest_38 : decode cX5_amongBest 38 = .ok (.getfield 198, 3) := by decide +kernel
theorem dX5_amongBest_41 : decode cX5_amongBest 41 = .ok (.iload 7, 2) := by decide +kernel
theorem dX5_amongBest_43 : decode cX5_amongBest 43 = .ok (.iaload, 1) := by decide +kernel
theorem dX5_amongBest_44 : decode cX5_amongBest 44 = .ok (.aload_n 0, 1) := by decide +kernel
theorem dX5_amongBest_45 : decode cX5_amongBest 45 = .ok (.getfield 37, 3) := by decide +kernel
theorem dX5_amongBest_48 : decode cX5_amongBest 48 = .ok (.getfield 198, 3) := by decide +kernel
theorem dX5_amongBest_51 : decode cX5_amongBest 51 = .ok (.iload_n 1, 1) := by decide +kernel
theorem dX5_amongBest_52 : decode cX5_amongBest 52 = .ok (.iaload, 1) := by decide +kernel
theorem dX5_amongBest_53 : decode cX5_amongBest 53 = .ok (.if_icmp .ne 36, 3) := by decide +kernel
theorem dX5_amongBest_56 : decode cX5_amongBest 56 = .ok (.aload_n 0, 1) := by decide +kernel
theorem dX5_amongBest_57 : decode cX5_amongBest 57 = .ok (.getfield 37, 3) := by decide +kernel
theorem dX5_amongBest_60 : decode cX5_amongBest 60 = .ok (.iload 7, 2) := by decide +kernel
theorem dX5_amongBest_62 : decode cX5_amongBest 62 = .ok (.aload_n 0, 1) := by decide +kernel
theorem dX5_amongBest_63 : decode cX5_amongBest 63 = .ok (.invokevirtual 153, 3) := by decide +kernel
theorem dX5_amongBest_66 : decode cX5_amongBest 66 = .ok (.invokevirtual 208, 3) := by decide +kernel
theorem dX5_amongBest_69 : decode cX5_amongBest 69 = .ok (.ifCond .eq 20, 3) := by decide +kernel
theorem dX5_amongBest_72 : decode cX5_amongBest 72 = .ok (.iinc 4 1, 3) := by decide +kernel
theorem dX5_amongBest_75 : decode cX5_amongBest 75 = .ok (.iload 5, 2) := by decide +kernel
theorem dX5_amongBest_77 : decode cX5_amongBest 77 = .ok (.iload 7, 2) := by decide +kernel
theorem dX5_amongBest_79 : decode cX5_amongBest 79 = .ok (.iand, 1) := by decide +kernel
theorem dX5_amongBest_80 : decode cX5_amongBest 80 = .ok (.istore 5, 2) := by decide +kernel
theorem dX5_amongBest_82 : decode cX5_amongBest 82 = .ok (.iload 6, 2) := by decide +kernel
theorem dX5_amongBest_84 : decode cX5_amongBest 84 = .ok (.iload 7, 2) := by decide +kernel
theorem dX5_amongBest_86 : decode cX5_amongBest 86 = .ok (.ior, 1) := by decide +kernel
theorem dX5_amongBest_87 : decode cX5_amongBest 87 = .ok (.istore 6, 2) := by decide +kernel
theorem dX5_amongBest_89 : decode cX5_amongBest 89 = .ok (.iinc 7 1, 3) := by decide +kernel
theorem dX5_amongBest_92 : decode cX5_amongBest 92 = .ok (.goto (-70), 3) := by decide +kernel
theorem dX5_amongBest_95 : decode cX5_amongBest 95 = .ok (.iload_n 2, 1) := by decide +kernel
theorem dX5_amongBest_96 : decode cX5_amongBest 96 = .ok (.iconst 3, 1) := by decide +kernel
theorem dX5_amongBest_97 : decode cX5_amongBest 97 = .ok (.if_icmp .ne 6, 3) := by decide +kernel
theorem dX5_amongBest_100 : decode cX5_amongBest 100 = .ok (.iload 4, 2) := by decide +kernel
theorem dX5_amongBest_102 : decode cX5_amongBest 102 = .ok (.ireturn, 1) := by decide +kernel
theorem dX5_amongBest_103 : decode cX5_amongBest 103 = .ok (.iload_n 2, 1) := by decide +kernel
theorem dX5_amongBest_104 : decode cX5_amongBest 104 = .ok (.iconst 4, 1) := by decide +kernel
theorem dX5_amongBest_105 : decode cX5_amongBest 105 = .ok (.if_icmp .ne 8, 3) := by decide +kernel
theorem dX5_amongBest_108 : decode cX5_amongBest 108 = .ok (.iload 5, 2) := by decide +kernel
theorem dX5_amongBest_110 : decode cX5_amongBest 110 = .ok (.goto 9, 3) := by decide +kernel
theorem dX5_amongBest_113 : decode cX5_amongBest 113 = .ok (.iload_n 3, 1) := by decide +kernel
theorem dX5_amongBest_114 : decode cX5_amongBest 114 = .ok (.iload 6, 2) := by decide +kernel
theorem dX5_amongBest_116 : decode cX5_amongBest 116 = .ok (.iconst (-1), 1) := by decide +kernel
theorem dX5_amongBest_117 : decode cX5_amongBest 117 = .ok (.ixor, 1) := by decide +kernel
theorem dX5_amongBest_118 : decode cX5_amongBest 118 = .ok (.iand, 1) := by decide +kernel
theorem dX5_amongBest_119 : decode cX5_amongBest 119 = .ok (.ireturn, 1) := by decide +kernel
set_option maxRecDepth 20000 in
theorem ggX5_staysBest_X5_budget : GoodIn wsX5_staysBest wsX5_budget := goodIn_r _ [7, 2, 8, 70, 71, 72, 73, 74, 75, 76, 77, 78, 79, 80, 81, 82] (by decide +kernel) (by decide +kernel)
set_option maxRecDepth 20000 in
theorem gX5_staysBest_X5_budget : GoodIn wsX5_staysBest (wsV RX5 134 RX5 yX5_budget wsX5_budget) := goodIn_app (goodIn_of _ (by decide +kernel)) ggX5_staysBest_X5_budget
set_option maxRecDepth 20000 in
theorem ggX5_staysBest_X0_fillWeights : GoodIn wsX5_staysBest wsX0_fillWeights := goodIn_r _ [13, 14, 15, 16, 17, 18, 19, 20, 21, 22, 23, 12, 24, 25, 26, 27, 28, 29, 30, 31, 32, 33, 34, 35, 36, 37, 38, 78, 79, 80, 81, 82, 83, 84, 85, 86, 87, 88, 89, 90, 91, 92] (by decide +kernel) (by decide +kernel)
set_option maxRecDepth 20000 in
theorem gX5_staysBest_X0_fillWeights : GoodIn wsX5_staysBest (wsV RX5 276 RX0 yX0_fillWeights wsX0_fillWeights) := goodIn_app (goodIn_of _ (by decide +kernel)) ggX5_staysBest_X0_fillWeights
set_option maxRecDepth 20000 in
theorem ggX5_staysBest_X5_capacity : GoodIn wsX5_staysBest wsX5_capacity := goodIn_r _ [42, 2, 8, 70, 71, 72, 73, 74, 75, 76, 77, 78, 79, 80, 81, 82] (by decide +kernel) (by decide +kernel)
set_option maxRecDepth 20000 in
theorem gX5_staysBest_X5_capacity : GoodIn wsX5_staysBest (wsV RX5 153 RX5 yX5_capacity wsX5_capacity) := goodIn_app (goodIn_of _ (by decide +kernel)) ggX5_staysBest_X5_capacity
set_option maxRecDepth 20000 in
theorem ggX5_staysBest_X0_firstOfAll : GoodIn wsX5_staysBest wsX0_firstOfAll := goodIn_r _ [46, 47, 48, 49, 50, 51, 52, 53, 12, 54, 55, 56, 57, 58, 59, 20, 60, 61, 62, 63, 64, 65, 66, 67, 68, 69, 83, 84, 85, 86, 87, 88, 89, 90, 91, 92] (by decide +kernel) (by decide +kernel)
set_option maxRecDepth 20000 in
theorem gX5_staysBest_X0_firstOfAll : GoodIn wsX5_staysBest (wsV RX5 169 RX0 yX0_firstOfAll wsX0_firstOfAll) := goodIn_app (goodIn_of _ (by decide +kernel)) ggX5_staysBest_X0_firstOfAll
theorem dX5_staysBest_0 : decode cX5_staysBest 0 = .ok (.aload_n 0, 1) := by decide +kernel
theorem dX5_staysBest_1 : decode cX5_staysBest 1 = .ok (.getfield 37, 3) := by decide +kernel
theorem dX5_staysBest_4 : decode cX5_staysBest 4 = .ok (.aload_n 0, 1) := by decide +kernel
theorem dX5_staysBest_5 : decode cX5_staysBest 5 = .ok (.getfield 10, 3) := by decide +kernel
theorem dX5_staysBest_8 : decode cX5_staysBest 8 = .ok (.aload_n 0, 1) := by decide +kernel
theorem dX5_staysBest_9 : decode cX5_staysBest 9 = .ok (.iconst 1, 1) := by decide +kernel
theorem dX5_staysBest_10 : decode cX5_staysBest 10 = .ok (.invokevirtual 134, 3) := by decide +kernel
theorem dX5_staysBest_13 : decode cX5_staysBest 13 = .ok (.iload_n 2, 1) := by decide +kernel
theorem dX5_staysBest_14 : decode cX5_staysBest 14 = .ok (.iload_n 3, 1) := by decide +kernel
theorem dX5_staysBest_15 : decode cX5_staysBest 15 = .ok (.invokevirtual 276, 3) := by decide +kernel
theorem dX5_staysBest_18 : decode cX5_staysBest 18 = .ok (.aload_n 0, 1) := by decide +kernel
theorem dX5_staysBest_19 : decode cX5_staysBest 19 = .ok (.getfield 37, 3) := by decide +kernel
theorem dX5_staysBest_22 : decode cX5_staysBest 22 = .ok (.aload_n 0, 1) := by decide +kernel
theorem dX5_staysBest_23 : decode cX5_staysBest 23 = .ok (.invokevirtual 153, 3) := by decide +kernel
theorem dX5_staysBest_26 : decode cX5_staysBest 26 = .ok (.invokevirtual 169, 3) := by decide +kernel
theorem dX5_staysBest_29 : decode cX5_staysBest 29 = .ok (.iload_n 1, 1) := by decide +kernel
theorem dX5_staysBest_30 : decode cX5_staysBest 30 = .ok (.if_icmp .ne 7, 3) := by decide +kernel
theorem dX5_staysBest_33 : decode cX5_staysBest 33 = .ok (.iconst 1, 1) := by decide +kernel
theorem dX5_staysBest_34 : decode cX5_staysBest 34 = .ok (.goto 4, 3) := by decide +kernel
theorem dX5_staysBest_37 : decode cX5_staysBest 37 = .ok (.iconst 0, 1) := by decide +kernel
theorem dX5_staysBest_38 : decode cX5_staysBest 38 = .ok (.ireturn, 1) := by decide +kernel
set_option maxRecDepth 20000 in
theorem ggX5_thresholds_X4_thresholdBelow : GoodIn wsX5_thresholds wsX4_thresholdBelow := goodIn_r _ [6, 7, 8, 17, 18, 19, 20, 21] (by decide +kernel) (by decide +kernel)
set_option maxRecDepth 20000 in
theorem gX5_thresholds_X4_thresholdBelow : GoodIn wsX5_thresholds (wsV RX5 280 RX4 yX4_thresholdBelow wsX4_thresholdBelow) := goodIn_app (goodIn_of _ (by decide +kernel)) ggX5_thresholds_X4_thresholdBelow
theorem dX5_thresholds_0 : decode cX5_thresholds 0 = .ok (.iconst 0, 1) := by decide +kernel
theorem dX5_thresholds_1 : decode cX5_thresholds 1 = .ok (.istore_n 1, 1) := by decide +kernel
theorem dX5_thresholds_2 : decode cX5_thresholds 2 = .ok (.aload_n 0, 1) := by decide +kernel
theorem dX5_thresholds_3 : decode cX5_thresholds 3 = .ok (.getfield 10, 3) := by decide +kernel
theorem dX5_thresholds_6 : decode cX5_thresholds 6 = .ok (.sipush 1000, 3) := by decide +kernel
theorem dX5_thresholds_9 : decode cX5_thresholds 9 = .ok (.invokevirtual 280, 3) := by decide +kernel
theorem dX5_thresholds_12 : decode cX5_thresholds 12 = .ok (.istore_n 2, 1) := by decide +kernel
theorem dX5_thresholds_13 : decode cX5_thresholds 13 = .ok (.iconst 0, 1) := by decide +kernel
theorem dX5_thresholds_14 : decode cX5_thresholds 14 = .ok (.istore_n 3, 1) := by decide +kernel
theorem dX5_thresholds_15 : decode cX5_thresholds 15 = .ok (.iload_n 3, 1) := by decide +kernel
theorem dX5_thresholds_16 : decode cX5_thresholds 16 = .ok (.bipush 12, 2) := by decide +kernel
theorem dX5_thresholds_18 : decode cX5_thresholds 18 = .ok (.if_icmp .gt 25, 3) := by decide +kernel
theorem dX5_thresholds_21 : decode cX5_thresholds 21 = .ok (.iload_n 2, 1) := by decide +kernel
theorem dX5_thresholds_22 : decode cX5_thresholds 22 = .ok (.ifCond .lt 21, 3) := by decide +kernel
theorem dX5_thresholds_25 : decode cX5_thresholds 25 = .ok (.iinc 1 1, 3) := by decide +kernel
theorem dX5_thresholds_28 : decode cX5_thresholds 28 = .ok (.aload_n 0, 1) := by decide +kernel
theorem dX5_thresholds_29 : decode cX5_thresholds 29 = .ok (.getfield 10, 3) := by decide +kernel
theorem dX5_thresholds_32 : decode cX5_thresholds 32 = .ok (.iload_n 2, 1) := by decide +kernel
theorem dX5_thresholds_33 : decode cX5_thresholds 33 = .ok (.invokevirtual 280, 3) := by decide +kernel
theorem dX5_thresholds_36 : decode cX5_thresholds 36 = .ok (.istore_n 2, 1) := by decide +kernel
theorem dX5_thresholds_37 : decode cX5_thresholds 37 = .ok (.iinc 3 1, 3) := by decide +kernel
theorem dX5_thresholds_40 : decode cX5_thresholds 40 = .ok (.goto (-25), 3) := by decide +kernel
theorem dX5_thresholds_43 : decode cX5_thresholds 43 = .ok (.iload_n 1, 1) := by decide +kernel
theorem dX5_thresholds_44 : decode cX5_thresholds 44 = .ok (.ireturn, 1) := by decide +kernel
set_option maxRecDepth 20000 in
theorem ggX5_thresholdAt_X4_thresholdBelow : GoodIn wsX5_thresholdAt wsX4_thresholdBelow := goodIn_r _ [6, 7, 8, 17, 18, 19, 20, 21] (by decide +kernel) (by decide +kernel)
set_option maxRecDepth 20000 in
theorem gX5_thresholdAt_X4_thresholdBelow : GoodIn wsX5_thresholdAt (wsV RX5 280 RX4 yX4_thresholdBelow wsX4_thresholdBelow) := goodIn_app (goodIn_of _ (by decide +kernel)) ggX5_thresholdAt_X4_thresholdBelow
theorem dX5_thresholdAt_0 : decode cX5_thresholdAt 0 = .ok (.sipush 1000, 3) := by decide +kernel
theorem dX5_thresholdAt_3 : decode cX5_thresholdAt 3 = .ok (.istore_n 2, 1) := by decide +kernel
theorem dX5_thresholdAt_4 : decode cX5_thresholdAt 4 = .ok (.iconst 0, 1) := by decide +kernel
theorem dX5_thresholdAt_5 : decode cX5_thresholdAt 5 = .ok (.istore_n 3, 1) := by decide +kernel
theorem dX5_thresholdAt_6 : decode cX5_thresholdAt 6 = .ok (.iload_n 3, 1) := by decide +kernel
theorem dX5_thresholdAt_7 : decode cX5_thresholdAt 7 = .ok (.iload_n 1, 1) := by decide +kernel
theorem dX5_thresholdAt_8 : decode cX5_thresholdAt 8 = .ok (.if_icmp .gt 24, 3) := by decide +kernel
theorem dX5_thresholdAt_11 : decode cX5_thresholdAt 11 = .ok (.iload_n 3, 1) := by decide +kernel
theorem dX5_thresholdAt_12 : decode cX5_thresholdAt 12 = .ok (.bipush 12, 2) := by decide +kernel
theorem dX5_thresholdAt_14 : decode cX5_thresholdAt 14 = .ok (.if_icmp .gt 18, 3) := by decide +kernel
theorem dX5_thresholdAt_17 : decode cX5_thresholdAt 17 = .ok (.aload_n 0, 1) := by decide +kernel
theorem dX5_thresholdAt_18 : decode cX5_thresholdAt 18 = .ok (.getfield 10, 3) := by decide +kernel
theorem dX5_thresholdAt_21 : decode cX5_thresholdAt 21 = .ok (.iload_n 2, 1) := by decide +kernel
theorem dX5_thresholdAt_22 : decode cX5_thresholdAt 22 = .ok (.invokevirtual 280, 3) := by decide +kernel
theorem dX5_thresholdAt_25 : decode cX5_thresholdAt 25 = .ok (.istore_n 2, 1) := by decide +kernel
theorem dX5_thresholdAt_26 : decode cX5_thresholdAt 26 = .ok (.iinc 3 1, 3) := by decide +kernel
theorem dX5_thresholdAt_29 : decode cX5_thresholdAt 29 = .ok (.goto (-23), 3) := by decide +kernel
theorem dX5_thresholdAt_32 : decode cX5_thresholdAt 32 = .ok (.iload_n 2, 1) := by decide +kernel
theorem dX5_thresholdAt_33 : decode cX5_thresholdAt 33 = .ok (.ireturn, 1) := by decide +kernel
theorem dX5_sumUp_0 : decode cX5_sumUp 0 = .ok (.aload_n 0, 1) := by decide +kernel
theorem dX5_sumUp_1 : decode cX5_sumUp 1 = .ok (.iconst 0, 1) := by decide +kernel
theorem dX5_sumUp_2 : decode cX5_sumUp 2 = .ok (.iconst 0, 1) := by decide +kernel
theorem dX5_sumUp_3 : decode cX5_sumUp 3 = .ok (.iastore, 1) := by decide +kernel
theorem dX5_sumUp_4 : decode cX5_sumUp 4 = .ok (.iconst 0, 1) := by decide +kernel
theorem dX5_sumUp_5 : decode cX5_sumUp 5 = .ok (.istore_n 3, 1) := by decide +kernel
theorem dX5_sumUp_6 : decode cX5_sumUp 6 = .ok (.iload_n 3, 1) := by decide +kernel
theorem dX5_sumUp_7 : decode cX5_sumUp 7 = .ok (.iload_n 2, 1) := by decide +kernel
theorem dX5_sumUp_8 : decode cX5_sumUp 8 = .ok (.if_icmp .ge 45, 3) := by decide +kernel
theorem dX5_sumUp_11 : decode cX5_sumUp 11 = .ok (.iconst 1, 1) := by decide +kernel
theorem dX5_sumUp_12 : decode cX5_sumUp 12 = .ok (.iload_n 3, 1) := by decide +kernel
theorem dX5_sumUp_13 : decode cX5_sumUp 13 = .ok (.ishl, 1) := by decide +kernel
theorem dX5_sumUp_14 : decode cX5_sumUp 14 = .ok (.istore 4, 2) := by decide +kernel
theorem dX5_sumUp_16 : decode cX5_sumUp 16 = .ok (.iconst 0, 1) := by decide +kernel
theorem dX5_sumUp_17 : decode cX5_sumUp 17 = .ok (.istore 5, 2) := by decide +kernel
theorem dX5_sumUp_19 : decode cX5_sumUp 19 = .ok (.iload 5, 2) := by decide +kernel
theorem dX5_sumUp_21 : decode cX5_sumUp 21 = .ok (.iload 4, 2) := by decide +kernel
theorem dX5_sumUp_23 : decode cX5_sumUp 23 = .ok (.if_icmp .ge 24, 3) := by decide +kernel
theorem dX5_sumUp_26 : decode cX5_sumUp 26 = .ok (.aload_n 0, 1) := by decide +kernel
theorem dX5_sumUp_27 : decode cX5_sumUp 27 = .ok (.iload 4, 2) := by decide +kernel
theorem dX5_sumUp_29 : decode cX5_sumUp 29 = .ok (.iload 5, 2) := by decide +kernel
theorem dX5_sumUp_31 : decode cX5_sumUp 31 = .ok (.ior, 1) := by decide +kernel
theorem dX5_sumUp_32 : decode cX5_sumUp 32 = .ok (.aload_n 0, 1) := by decide +kernel
theorem dX5_sumUp_33 : decode cX5_sumUp 33 = .ok (.iload 5, 2) := by decide +kernel
theorem dX5_sumUp_35 : decode cX5_sumUp 35 = .ok (.iaload, 1) := by decide +kernel
theorem dX5_sumUp_36 : decode cX5_sumUp 36 = .ok (.aload_n 1, 1) := by decide +kernel
theorem dX5_sumUp_37 : decode cX5_sumUp 37 = .ok (.iload_n 3, 1) := by decide +kernel
theorem dX5_sumUp_38 : decode cX5_sumUp 38 = .ok (.iaload, 1) := by decide +kernel
theorem dX5_sumUp_39 : decode cX5_sumUp 39 = .ok (.iadd, 1) := by decide +kernel
theorem dX5_sumUp_40 : decode cX5_sumUp 40 = .ok (.iastore, 1) := by decide +kernel
theorem dX5_sumUp_41 : decode cX5_sumUp 41 = .ok (.iinc 5 1, 3) := by decide +kernel
theorem dX5_sumUp_44 : decode cX5_sumUp 44 = .ok (.goto (-25), 3) := by decide +kernel
theorem dX5_sumUp_47 : decode cX5_sumUp 47 = .ok (.iinc 3 1, 3) := by decide +kernel
theorem dX5_sumUp_50 : decode cX5_sumUp 50 = .ok (.goto (-44), 3) := by decide +kernel
theorem dX5_sumUp_53 : decode cX5_sumUp 53 = .ok (.return_, 1) := by decide +kernel
