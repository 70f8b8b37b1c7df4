set_option maxRecDepth 20000 in
theorem ggX10_init_X1_init : GoodIn wsX10_init wsX1_init := goodIn_r _ [25, 26, 2, 3, 27, 28, 29, 30, 31, 32, 33, 34, 35, 36, 37, 38, 39, 40, 41, 42, 43, 44, 45, 46, 47, 48, 76, 77, 78, 79, 80, 81, 82, 83, 84, 85, 125, 126, 127, 128, 129, 130, 131, 132, 133, 134, 135, 136, 137, 138, 139, 140, 141, 142, 143, 144, 145, 146, 147, 148] (by decide +kernel) (by decide +kernel)
set_option maxRecDepth 20000 in
theorem gX10_init_X1_init : GoodIn wsX10_init (wsX1_init) := ggX10_init_X1_init
set_option maxRecDepth 20000 in
theorem ggX10_init_X8_init : GoodIn wsX10_init wsX8_init := goodIn_r _ [50, 51, 2, 3, 52, 5, 6, 53, 29, 54, 55, 56, 57, 24, 25, 26, 27, 28, 30, 31, 32, 33, 34, 35, 36, 37, 38, 39, 40, 41, 42, 43, 44, 45, 46, 47, 48, 76, 77, 78, 79, 80, 81, 82, 83, 84, 85, 95, 96, 97, 98, 99, 100, 101, 102, 103, 125, 126, 127, 128, 129, 130, 131, 132, 133, 134, 135, 136, 137, 138, 139, 140, 141, 142, 143, 144, 145, 146, 147, 148] (by decide +kernel) (by decide +kernel)
set_option maxRecDepth 20000 in
theorem gX10_init_X8_init_n26 : GoodIn wsX10_init (wsX8_init) := ggX10_init_X8_init
set_option maxRecDepth 20000 in
theorem ggX10_init_X7_init : GoodIn wsX10_init wsX7_init := goodIn_r _ [59, 60, 2, 3, 29, 61, 62, 63, 64, 65, 66, 67, 104, 105, 106, 107, 108, 109, 110, 111, 112, 113, 114, 115] (by decide +kernel) (by decide +kernel)
set_option maxRecDepth 20000 in
theorem gX10_init_X7_init_n33 : GoodIn wsX10_init (wsX7_init) := ggX10_init_X7_init
set_option maxRecDepth 20000 in
theorem ggX10_init_X5_init : GoodIn wsX10_init wsX5_init := goodIn_r _ [69, 70, 2, 3, 29, 71, 72, 73, 74, 75, 116, 117, 118, 119, 120, 121, 122, 123, 124] (by decide +kernel) (by decide +kernel)
set_option maxRecDepth 20000 in
theorem gX10_init_X5_init_n40 : GoodIn wsX10_init (wsX5_init) := ggX10_init_X5_init
theorem dX10_init_0 : decode cX10_init 0 = .ok (.aload_n 0, 1) := by decide +kernel
theorem dX10_init_1 : decode cX10_init 1 = .ok (.invokespecial 1, 3) := by decide +kernel
theorem dX10_init_4 : decode cX10_init 4 = .ok (.aload_n 0, 1) := by decide +kernel
theorem dX10_init_5 : decode cX10_init 5 = .ok (.new 7, 3) := by decide +kernel
theorem dX10_init_8 : decode cX10_init 8 = .ok (.dup, 1) := by decide +kernel
theorem dX10_init_9 : decode cX10_init 9 = .ok (.invokespecial 9, 3) := by decide +kernel
theorem dX10_init_12 : decode cX10_init 12 = .ok (.putfield 10, 3) := by decide +kernel
theorem dX10_init_15 : decode cX10_init 15 = .ok (.aload_n 0, 1) := by decide +kernel
theorem dX10_init_16 : decode cX10_init 16 = .ok (.iconst 2, 1) := by decide +kernel
theorem dX10_init_17 : decode cX10_init 17 = .ok (.anewarray 7, 3) := by decide +kernel
theorem dX10_init_20 : decode cX10_init 20 = .ok (.putfield 16, 3) := by decide +kernel
theorem dX10_init_23 : decode cX10_init 23 = .ok (.aload_n 0, 1) := by decide +kernel
theorem dX10_init_24 : decode cX10_init 24 = .ok (.iconst 2, 1) := by decide +kernel
theorem dX10_init_25 : decode cX10_init 25 = .ok (.newarray .boolean, 2) := by decide +kernel
theorem dX10_init_27 : decode cX10_init 27 = .ok (.putfield 20, 3) := by decide +kernel
theorem dX10_init_30 : decode cX10_init 30 = .ok (.aload_n 0, 1) := by decide +kernel
theorem dX10_init_31 : decode cX10_init 31 = .ok (.new 24, 3) := by decide +kernel
theorem dX10_init_34 : decode cX10_init 34 = .ok (.dup, 1) := by decide +kernel
theorem dX10_init_35 : decode cX10_init 35 = .ok (.invokespecial 26, 3) := by decide +kernel
theorem dX10_init_38 : decode cX10_init 38 = .ok (.putfield 27, 3) := by decide +kernel
theorem dX10_init_41 : decode cX10_init 41 = .ok (.aload_n 0, 1) := by decide +kernel
theorem dX10_init_42 : decode cX10_init 42 = .ok (.new 31, 3) := by decide +kernel
theorem dX10_init_45 : decode cX10_init 45 = .ok (.dup, 1) := by decide +kernel
theorem dX10_init_46 : decode cX10_init 46 = .ok (.invokespecial 33, 3) := by decide +kernel
theorem dX10_init_49 : decode cX10_init 49 = .ok (.putfield 34, 3) := by decide +kernel
theorem dX10_init_52 : decode cX10_init 52 = .ok (.aload_n 0, 1) := by decide +kernel
theorem dX10_init_53 : decode cX10_init 53 = .ok (.new 38, 3) := by decide +kernel
theorem dX10_init_56 : decode cX10_init 56 = .ok (.dup, 1) := by decide +kernel
theorem dX10_init_57 : decode cX10_init 57 = .ok (.invokespecial 40, 3) := by decide +kernel
theorem dX10_init_60 : decode cX10_init 60 = .ok (.putfield 41, 3) := by decide +kernel
theorem dX10_init_63 : decode cX10_init 63 = .ok (.iconst 0, 1) := by decide +kernel
theorem dX10_init_64 : decode cX10_init 64 = .ok (.istore_n 1, 1) := by decide +kernel
theorem dX10_init_65 : decode cX10_init 65 = .ok (.iload_n 1, 1) := by decide +kernel
theorem dX10_init_66 : decode cX10_init 66 = .ok (.iconst 2, 1) := by decide +kernel
theorem dX10_init_67 : decode cX10_init 67 = .ok (.if_icmp .ge 22, 3) := by decide +kernel
theorem dX10_init_70 : decode cX10_init 70 = .ok (.aload_n 0, 1) := by decide +kernel
theorem dX10_init_71 : decode cX10_init 71 = .ok (.getfield 16, 3) := by decide +kernel
theorem dX10_init_74 : decode cX10_init 74 = .ok (.iload_n 1, 1) := by decide +kernel
theorem dX10_init_75 : decode cX10_init 75 = .ok (.new 7, 3) := by decide +kernel
theorem dX10_init_78 : decode cX10_init 78 = .ok (.dup, 1) := by decide +kernel
theorem dX10_init_79 : decode cX10_init 79 = .ok (.invokespecial 9, 3) := by decide +kernel
theorem dX10_init_82 : decode cX10_init 82 = .ok (.aastore, 1) := by decide +kernel
theorem dX10_init_83 : decode cX10_init 83 = .ok (.iinc 1 1, 3) := by decide +kernel
theorem dX10_init_86 : decode cX10_init 86 = .ok (.goto (-21), 3) := by decide +kernel
theorem dX10_init_89 : decode cX10_init 89 = .ok (.return_, 1) := by decide +kernel
set_option maxRecDepth 20000 in
theorem ggX10_porter_X10_fitsPorter : GoodIn wsX10_porter wsX10_fitsPorter := goodIn_r _ [6, 7, 8] (by decide +kernel) (by decide +kernel)
set_option maxRecDepth 20000 in
theorem gX10_porter_X10_fitsPorter : GoodIn wsX10_porter (va_wsS RX10 45 yX10_fitsPorter wsX10_fitsPorter) := goodIn_app (goodIn_of _ (by decide +kernel)) ggX10_porter_X10_fitsPorter
set_option maxRecDepth 20000 in
theorem ggX10_porter_X10_bad : GoodIn wsX10_porter wsX10_bad := goodIn_r _ [12, 13, 85, 86, 87, 88, 89, 90, 91, 92, 93] (by decide +kernel) (by decide +kernel)
set_option maxRecDepth 20000 in
theorem gX10_porter_X10_bad : GoodIn wsX10_porter (wsV RX10 49 RX10 yX10_bad wsX10_bad) := goodIn_app (goodIn_of _ (by decide +kernel)) ggX10_porter_X10_bad
set_option maxRecDepth 20000 in
theorem ggX10_porter_X10_full : GoodIn wsX10_porter wsX10_full := goodIn_r _ [17, 18, 85, 86, 87, 88, 89, 90, 91, 92, 93] (by decide +kernel) (by decide +kernel)
set_option maxRecDepth 20000 in
theorem gX10_porter_X10_full : GoodIn wsX10_porter (wsV RX10 57 RX10 yX10_full wsX10_full) := goodIn_app (goodIn_of _ (by decide +kernel)) ggX10_porter_X10_full
set_option maxRecDepth 20000 in
theorem ggX10_porter_X10_changed : GoodIn wsX10_porter wsX10_changed := goodIn_r _ [22, 23, 24, 25, 26, 85, 86, 87, 88, 89, 90, 91, 92, 93, 104, 105, 106, 107, 108, 109, 110, 111, 112, 113, 114, 115, 116, 117, 118, 119, 120, 121, 122, 123, 124] (by decide +kernel) (by decide +kernel)
set_option maxRecDepth 20000 in
theorem gX10_porter_X10_changed : GoodIn wsX10_porter (wsV RX10 61 RX10 yX10_changed wsX10_changed) := goodIn_app (goodIn_of _ (by decide +kernel)) ggX10_porter_X10_changed
set_option maxRecDepth 20000 in
theorem ggX10_porter_X10_newPorter : GoodIn wsX10_porter wsX10_newPorter := goodIn_r _ [29, 30, 31, 32, 33, 34, 35, 36, 37, 38, 39, 40, 41, 42, 43, 44, 45, 46, 47, 48, 49, 50, 51, 52, 53, 54, 55, 56, 57, 58, 59, 60, 61, 62, 63, 64, 65, 66, 67, 68, 69, 70, 71, 72, 73, 74, 75, 76, 77, 125, 126, 127, 128, 129, 130, 131, 132, 133, 134, 135, 136, 137, 138, 139, 140, 141, 142, 143, 144, 145, 146, 147, 148] (by decide +kernel) (by decide +kernel)
set_option maxRecDepth 20000 in
theorem gX10_porter_X10_newPorter : GoodIn wsX10_porter (va_wsS RX10 64 yX10_newPorter wsX10_newPorter) := goodIn_app (goodIn_of _ (by decide +kernel)) ggX10_porter_X10_newPorter
set_option maxRecDepth 20000 in
theorem ggX10_porter_X1_addPorter : GoodIn wsX10_porter wsX1_addPorter := goodIn_r _ [82, 83, 84, 94, 95, 96, 97, 98, 99, 100, 101, 102, 103] (by decide +kernel) (by decide +kernel)
set_option maxRecDepth 20000 in
theorem gX10_porter_X1_addPorter : GoodIn wsX10_porter (wsV RX10 68 RX1 yX1_addPorter wsX1_addPorter) := goodIn_app (goodIn_of _ (by decide +kernel)) ggX10_porter_X1_addPorter
theorem dX10_porter_0 : decode cX10_porter 0 = .ok (.iconst 0, 1) := by decide +kernel
theorem dX10_porter_1 : decode cX10_porter 1 = .ok (.iload_n 1, 1) := by decide +kernel
theorem dX10_porter_2 : decode cX10_porter 2 = .ok (.invokestatic 45, 3) := by decide +kernel
theorem dX10_porter_5 : decode cX10_porter 5 = .ok (.ifCond .eq 28, 3) := by decide +kernel
theorem dX10_porter_8 : decode cX10_porter 8 = .ok (.iconst 1, 1) := by decide +kernel
theorem dX10_porter_9 : decode cX10_porter 9 = .ok (.iload_n 2, 1) := by decide +kernel
theorem dX10_porter_10 : decode cX10_porter 10 = .ok (.invokestatic 45, 3) := by decide +kernel
theorem dX10_porter_13 : decode cX10_porter 13 = .ok (.ifCond .eq 20, 3) := by decide +kernel
theorem dX10_porter_16 : decode cX10_porter 16 = .ok (.iconst 2, 1) := by decide +kernel
theorem dX10_porter_17 : decode cX10_porter 17 = .ok (.iload_n 3, 1) := by decide +kernel
theorem dX10_porter_18 : decode cX10_porter 18 = .ok (.invokestatic 45, 3) := by decide +kernel
theorem dX10_porter_21 : decode cX10_porter 21 = .ok (.ifCond .eq 12, 3) := by decide +kernel
theorem dX10_porter_24 : decode cX10_porter 24 = .ok (.iconst 3, 1) := by decide +kernel
theorem dX10_porter_25 : decode cX10_porter 25 = .ok (.iload 4, 2) := by decide +kernel
theorem dX10_porter_27 : decode cX10_porter 27 = .ok (.invokestatic 45, 3) := by decide +kernel
theorem dX10_porter_30 : decode cX10_porter 30 = .ok (.ifCond .ne 10, 3) := by decide +kernel
theorem dX10_porter_33 : decode cX10_porter 33 = .ok (.aload_n 0, 1) := by decide +kernel
theorem dX10_porter_34 : decode cX10_porter 34 = .ok (.bipush (-2), 2) := by decide +kernel
theorem dX10_porter_36 : decode cX10_porter 36 = .ok (.invokevirtual 49, 3) := by decide +kernel
theorem dX10_porter_39 : decode cX10_porter 39 = .ok (.ireturn, 1) := by decide +kernel
theorem dX10_porter_40 : decode cX10_porter 40 = .ok (.aload_n 0, 1) := by decide +kernel
theorem dX10_porter_41 : decode cX10_porter 41 = .ok (.getfield 10, 3) := by decide +kernel
theorem dX10_porter_44 : decode cX10_porter 44 = .ok (.getfield 53, 3) := by decide +kernel
theorem dX10_porter_47 : decode cX10_porter 47 = .ok (.bipush 6, 2) := by decide +kernel
theorem dX10_porter_49 : decode cX10_porter 49 = .ok (.if_icmp .lt 8, 3) := by decide +kernel
theorem dX10_porter_52 : decode cX10_porter 52 = .ok (.aload_n 0, 1) := by decide +kernel
theorem dX10_porter_53 : decode cX10_porter 53 = .ok (.invokevirtual 57, 3) := by decide +kernel
theorem dX10_porter_56 : decode cX10_porter 56 = .ok (.ireturn, 1) := by decide +kernel
theorem dX10_porter_57 : decode cX10_porter 57 = .ok (.aload_n 0, 1) := by decide +kernel
theorem dX10_porter_58 : decode cX10_porter 58 = .ok (.invokevirtual 61, 3) := by decide +kernel
theorem dX10_porter_61 : decode cX10_porter 61 = .ok (.aload_n 0, 1) := by decide +kernel
theorem dX10_porter_62 : decode cX10_porter 62 = .ok (.getfield 10, 3) := by decide +kernel
theorem dX10_porter_65 : decode cX10_porter 65 = .ok (.iload_n 1, 1) := by decide +kernel
theorem dX10_porter_66 : decode cX10_porter 66 = .ok (.iload_n 2, 1) := by decide +kernel
theorem dX10_porter_67 : decode cX10_porter 67 = .ok (.iload_n 3, 1) := by decide +kernel
theorem dX10_porter_68 : decode cX10_porter 68 = .ok (.iload 4, 2) := by decide +kernel
theorem dX10_porter_70 : decode cX10_porter 70 = .ok (.invokestatic 64, 3) := by decide +kernel
theorem dX10_porter_73 : decode cX10_porter 73 = .ok (.invokevirtual 68, 3) := by decide +kernel
theorem dX10_porter_76 : decode cX10_porter 76 = .ok (.aload_n 0, 1) := by decide +kernel
theorem dX10_porter_77 : decode cX10_porter 77 = .ok (.getfield 10, 3) := by decide +kernel
theorem dX10_porter_80 : decode cX10_porter 80 = .ok (.getfield 53, 3) := by decide +kernel
theorem dX10_porter_83 : decode cX10_porter 83 = .ok (.iconst 1, 1) := by decide +kernel
theorem dX10_porter_84 : decode cX10_porter 84 = .ok (.isub, 1) := by decide +kernel
theorem dX10_porter_85 : decode cX10_porter 85 = .ok (.ireturn, 1) := by decide +kernel
set_option maxRecDepth 20000 in
theorem ggX10_put_X10_bad : GoodIn wsX10_put wsX10_bad := goodIn_r _ [8, 9, 18, 19, 20, 21, 22, 23, 24, 25, 26] (by decide +kernel) (by decide +kernel)
set_option maxRecDepth 20000 in
theorem gX10_put_X10_bad : GoodIn wsX10_put (wsV RX10 49 RX10 yX10_bad wsX10_bad) := goodIn_app (goodIn_of _ (by decide +kernel)) ggX10_put_X10_bad
set_option maxRecDepth 20000 in
theorem ggX10_put_X10_changed : GoodIn wsX10_put wsX10_changed := goodIn_r _ [13, 14, 15, 16, 17, 18, 19, 20, 21, 22, 23, 24, 25, 26, 37, 38, 39, 40, 41, 42, 43, 44, 45, 46, 47, 48, 49, 50, 51, 52, 53, 54, 55, 56, 57] (by decide +kernel) (by decide +kernel)
set_option maxRecDepth 20000 in
theorem gX10_put_X10_changed : GoodIn wsX10_put (wsV RX10 61 RX10 yX10_changed wsX10_changed) := goodIn_app (goodIn_of _ (by decide +kernel)) ggX10_put_X10_changed
theorem dX10_put_0 : decode cX10_put 0 = .ok (.iload_n 1, 1) := by decide +kernel
theorem dX10_put_1 : decode cX10_put 1 = .ok (.ifCond .lt 21, 3) := by decide +kernel
theorem dX10_put_4 : decode cX10_put 4 = .ok (.iload_n 1, 1) := by decide +kernel
theorem dX10_put_5 : decode cX10_put 5 = .ok (.iconst 4, 1) := by decide +kernel
theorem dX10_put_6 : decode cX10_put 6 = .ok (.if_icmp .ge 16, 3) := by decide +kernel
theorem dX10_put_9 : decode cX10_put 9 = .ok (.iload_n 2, 1) := by decide +kernel
theorem dX10_put_10 : decode cX10_put 10 = .ok (.ifCond .lt 12, 3) := by decide +kernel
theorem dX10_put_13 : decode cX10_put 13 = .ok (.iload_n 2, 1) := by decide +kernel
theorem dX10_put_14 : decode cX10_put 14 = .ok (.getstatic 72, 3) := by decide +kernel
theorem dX10_put_17 : decode cX10_put 17 = .ok (.iload_n 1, 1) := by decide +kernel
theorem dX10_put_18 : decode cX10_put 18 = .ok (.iaload, 1) := by decide +kernel
theorem dX10_put_19 : decode cX10_put 19 = .ok (.if_icmp .le 10, 3) := by decide +kernel
theorem dX10_put_22 : decode cX10_put 22 = .ok (.aload_n 0, 1) := by decide +kernel
theorem dX10_put_23 : decode cX10_put 23 = .ok (.bipush (-2), 2) := by decide +kernel
theorem dX10_put_25 : decode cX10_put 25 = .ok (.invokevirtual 49, 3) := by decide +kernel
theorem dX10_put_28 : decode cX10_put 28 = .ok (.ireturn, 1) := by decide +kernel
theorem dX10_put_29 : decode cX10_put 29 = .ok (.aload_n 0, 1) := by decide +kernel
theorem dX10_put_30 : decode cX10_put 30 = .ok (.getfield 10, 3) := by decide +kernel
theorem dX10_put_33 : decode cX10_put 33 = .ok (.getfield 76, 3) := by decide +kernel
theorem dX10_put_36 : decode cX10_put 36 = .ok (.iload_n 1, 1) := by decide +kernel
theorem dX10_put_37 : decode cX10_put 37 = .ok (.iaload, 1) := by decide +kernel
theorem dX10_put_38 : decode cX10_put 38 = .ok (.istore_n 3, 1) := by decide +kernel
theorem dX10_put_39 : decode cX10_put 39 = .ok (.aload_n 0, 1) := by decide +kernel
theorem dX10_put_40 : decode cX10_put 40 = .ok (.invokevirtual 61, 3) := by decide +kernel
theorem dX10_put_43 : decode cX10_put 43 = .ok (.aload_n 0, 1) := by decide +kernel
theorem dX10_put_44 : decode cX10_put 44 = .ok (.getfield 10, 3) := by decide +kernel
theorem dX10_put_47 : decode cX10_put 47 = .ok (.getfield 76, 3) := by decide +kernel
theorem dX10_put_50 : decode cX10_put 50 = .ok (.iload_n 1, 1) := by decide +kernel
theorem dX10_put_51 : decode cX10_put 51 = .ok (.iload_n 2, 1) := by decide +kernel
theorem dX10_put_52 : decode cX10_put 52 = .ok (.iastore, 1) := by decide +kernel
theorem dX10_put_53 : decode cX10_put 53 = .ok (.iload_n 3, 1) := by decide +kernel
theorem dX10_put_54 : decode cX10_put 54 = .ok (.ireturn, 1) := by decide +kernel
set_option maxRecDepth 20000 in
theorem ggX10_of_X1_hasPorter : GoodIn wsX10_of wsX1_hasPorter := goodIn_r _ [7, 8, 70, 71, 72, 73, 74, 75, 76, 77, 78, 79] (by decide +kernel) (by decide +kernel)
set_option maxRecDepth 20000 in
theorem gX10_of_X1_hasPorter : GoodIn wsX10_of (wsV RX10 79 RX1 yX1_hasPorter wsX1_hasPorter) := goodIn_app (goodIn_of _ (by decide +kernel)) ggX10_of_X1_hasPorter
set_option maxRecDepth 20000 in
theorem ggX10_of_X10_isMinute : GoodIn wsX10_of wsX10_isMinute := goodIn_r _ [12] (by decide +kernel) (by decide +kernel)
set_option maxRecDepth 20000 in
theorem gX10_of_X10_isMinute : GoodIn wsX10_of (va_wsS RX10 83 yX10_isMinute wsX10_isMinute) := goodIn_app (goodIn_of _ (by decide +kernel)) ggX10_of_X10_isMinute
set_option maxRecDepth 20000 in
theorem ggX10_of_X10_bad : GoodIn wsX10_of wsX10_bad := goodIn_r _ [16, 17, 61, 62, 63, 64, 65, 66, 67, 68, 69] (by decide +kernel) (by decide +kernel)
set_option maxRecDepth 20000 in
theorem gX10_of_X10_bad : GoodIn wsX10_of (wsV RX10 49 RX10 yX10_bad wsX10_bad) := goodIn_app (goodIn_of _ (by decide +kernel)) ggX10_of_X10_bad
set_option maxRecDepth 20000 in
theorem ggX10_of_X1_weightOf : GoodIn wsX10_of wsX1_weightOf := goodIn_r _ [21, 22, 23, 24, 25, 26, 27, 28, 29, 30, 31, 32, 33, 34, 35, 36, 37, 38, 39, 40, 41, 42, 70, 71, 72, 73, 74, 75, 76, 77, 78, 79, 80, 81, 82, 83, 84, 85, 86, 87, 88, 89, 90, 91, 92, 93, 94, 95, 96, 97, 98, 99, 100, 101, 102, 103] (by decide +kernel) (by decide +kernel)
set_option maxRecDepth 20000 in
theorem gX10_of_X1_weightOf : GoodIn wsX10_of (wsV RX10 86 RX1 yX1_weightOf wsX1_weightOf) := goodIn_app (goodIn_of _ (by decide +kernel)) ggX10_of_X1_weightOf
set_option maxRecDepth 20000 in
theorem ggX10_of_X6_minutes : GoodIn wsX10_of wsX6_minutes := goodIn_r _ [47, 48, 80, 81, 82, 83, 84, 85, 86, 87, 88, 89, 90, 91, 92, 93, 94, 95, 96, 97, 98, 99, 100, 101, 102, 103] (by decide +kernel) (by decide +kernel)
set_option maxRecDepth 20000 in
theorem gX10_of_X6_minutes_u94X0 : GoodIn wsX10_of (va_wsU RX10 94 RX0 "OnlyTwo$Plain" ⟨"OnlyTwo$Plain", "minutes", "()I"⟩ yX6_minutes wsX6_minutes) := goodIn_app (goodIn_of _ (by decide +kernel)) ggX10_of_X6_minutes
set_option maxRecDepth 20000 in
theorem gX10_of_X6_minutes_u94X2 : GoodIn wsX10_of (va_wsU RX10 94 RX2 "OnlyTwo$Plain" ⟨"OnlyTwo$Plain", "minutes", "()I"⟩ yX6_minutes wsX6_minutes) := goodIn_app (goodIn_of _ (by decide +kernel)) ggX10_of_X6_minutes
set_option maxRecDepth 20000 in
theorem gX10_of_X6_minutes_u94X3 : GoodIn wsX10_of (va_wsU RX10 94 RX3 "OnlyTwo$Plain" ⟨"OnlyTwo$Plain", "minutes", "()I"⟩ yX6_minutes wsX6_minutes) := goodIn_app (goodIn_of _ (by decide +kernel)) ggX10_of_X6_minutes
set_option maxRecDepth 20000 in
theorem ggX10_of_X4_minutes : GoodIn wsX10_of wsX4_minutes := goodIn_r _ [55, 56, 57, 80, 81, 82, 83, 84, 85, 86, 87, 88, 89, 90, 91, 92, 93, 94, 95, 96, 97, 98, 99, 100, 101, 102, 103] (by decide +kernel) (by decide +kernel)
set_option maxRecDepth 20000 in
theorem gX10_of_X4_minutes_u94X4 : GoodIn wsX10_of (va_wsO RX10 94 RX4 "OnlyTwo$Plain" ⟨"OnlyTwo$Plain", "minutes", "()I"⟩ yX4_minutes wsX4_minutes) := goodIn_app (goodIn_of _ (by decide +kernel)) ggX10_of_X4_minutes
set_option maxRecDepth 20000 in
theorem gX10_of_X6_minutes : GoodIn wsX10_of (wsV RX10 94 RX6 yX6_minutes wsX6_minutes) := goodIn_app (goodIn_of _ (by decide +kernel)) ggX10_of_X6_minutes
set_option maxRecDepth 20000 in
theorem gX10_of_X4_minutes_u94X9 : GoodIn wsX10_of (va_wsO RX10 94 RX9 "OnlyTwo$Plain" ⟨"OnlyTwo$Plain", "minutes", "()I"⟩ yX4_minutes wsX4_minutes) := goodIn_app (goodIn_of _ (by decide +kernel)) ggX10_of_X4_minutes
theorem dX10_of_0 : decode cX10_of 0 = .ok (.aload_n 0, 1) := by decide +kernel
theorem dX10_of_1 : decode cX10_of 1 = .ok (.getfield 10, 3) := by decide +kernel
theorem dX10_of_4 : decode cX10_of 4 = .ok (.iload_n 1, 1) := by decide +kernel
theorem dX10_of_5 : decode cX10_of 5 = .ok (.invokevirtual 79, 3) := by decide +kernel
theorem dX10_of_8 : decode cX10_of 8 = .ok (.ifCond .eq 19, 3) := by decide +kernel
theorem dX10_of_11 : decode cX10_of 11 = .ok (.iload_n 2, 1) := by decide +kernel
theorem dX10_of_12 : decode cX10_of 12 = .ok (.invokestatic 83, 3) := by decide +kernel
theorem dX10_of_15 : decode cX10_of 15 = .ok (.ifCond .eq 12, 3) := by decide +kernel
theorem dX10_of_18 : decode cX10_of 18 = .ok (.iload_n 3, 1) := by decide +kernel
theorem dX10_of_19 : decode cX10_of 19 = .ok (.ifCond .lt 8, 3) := by decide +kernel
theorem dX10_of_22 : decode cX10_of 22 = .ok (.iload_n 3, 1) := by decide +kernel
theorem dX10_of_23 : decode cX10_of 23 = .ok (.iconst 1, 1) := by decide +kernel
theorem dX10_of_24 : decode cX10_of 24 = .ok (.if_icmp .le 10, 3) := by decide +kernel
theorem dX10_of_27 : decode cX10_of 27 = .ok (.aload_n 0, 1) := by decide +kernel
theorem dX10_of_28 : decode cX10_of 28 = .ok (.bipush (-2), 2) := by decide +kernel
theorem dX10_of_30 : decode cX10_of 30 = .ok (.invokevirtual 49, 3) := by decide +kernel
theorem dX10_of_33 : decode cX10_of 33 = .ok (.ireturn, 1) := by decide +kernel
theorem dX10_of_34 : decode cX10_of 34 = .ok (.iload_n 3, 1) := by decide +kernel
theorem dX10_of_35 : decode cX10_of 35 = .ok (.ifCond .ne 15, 3) := by decide +kernel
theorem dX10_of_38 : decode cX10_of 38 = .ok (.aload_n 0, 1) := by decide +kernel
theorem dX10_of_39 : decode cX10_of 39 = .ok (.getfield 10, 3) := by decide +kernel
theorem dX10_of_42 : decode cX10_of 42 = .ok (.iload_n 1, 1) := by decide +kernel
theorem dX10_of_43 : decode cX10_of 43 = .ok (.iload_n 2, 1) := by decide +kernel
theorem dX10_of_44 : decode cX10_of 44 = .ok (.invokevirtual 86, 3) := by decide +kernel
theorem dX10_of_47 : decode cX10_of 47 = .ok (.goto 15, 3) := by decide +kernel
theorem dX10_of_50 : decode cX10_of 50 = .ok (.aload_n 0, 1) := by decide +kernel
theorem dX10_of_51 : decode cX10_of 51 = .ok (.getfield 10, 3) := by decide +kernel
theorem dX10_of_54 : decode cX10_of 54 = .ok (.getfield 90, 3) := by decide +kernel
theorem dX10_of_57 : decode cX10_of 57 = .ok (.iload_n 1, 1) := by decide +kernel
theorem dX10_of_58 : decode cX10_of 58 = .ok (.aaload, 1) := by decide +kernel
theorem dX10_of_59 : decode cX10_of 59 = .ok (.invokevirtual 94, 3) := by decide +kernel
theorem dX10_of_62 : decode cX10_of 62 = .ok (.ireturn, 1) := by decide +kernel
set_option maxRecDepth 20000 in
theorem ggX10_why_X1_hasSet : GoodIn wsX10_why wsX1_hasSet := goodIn_r _ [6, 7, 142, 143, 144, 145, 146, 147, 148, 149, 150, 151] (by decide +kernel) (by decide +kernel)
set_option maxRecDepth 20000 in
theorem gX10_why_X1_hasSet : GoodIn wsX10_why (wsV RX10 99 RX1 yX1_hasSet wsX1_hasSet) := goodIn_app (goodIn_of _ (by decide +kernel)) ggX10_why_X1_hasSet
set_option maxRecDepth 20000 in
theorem ggX10_why_X10_isMinute : GoodIn wsX10_why wsX10_isMinute := goodIn_r _ [11] (by decide +kernel) (by decide +kernel)
set_option maxRecDepth 20000 in
theorem gX10_why_X10_isMinute : GoodIn wsX10_why (va_wsS RX10 83 yX10_isMinute wsX10_isMinute) := goodIn_app (goodIn_of _ (by decide +kernel)) ggX10_why_X10_isMinute
set_option maxRecDepth 20000 in
theorem ggX10_why_X10_bad : GoodIn wsX10_why wsX10_bad := goodIn_r _ [15, 16, 133, 134, 135, 136, 137, 138, 139, 140, 141] (by decide +kernel) (by decide +kernel)
set_option maxRecDepth 20000 in
theorem gX10_why_X10_bad : GoodIn wsX10_why (wsV RX10 49 RX10 yX10_bad wsX10_bad) := goodIn_app (goodIn_of _ (by decide +kernel)) ggX10_why_X10_bad
set_option maxRecDepth 20000 in
theorem ggX10_why_X1_isNight : GoodIn wsX10_why wsX1_isNight := goodIn_r _ [20, 21, 142, 143, 144, 145, 146, 147, 148, 149, 150, 151] (by decide +kernel) (by decide +kernel)
set_option maxRecDepth 20000 in
theorem gX10_why_X1_isNight : GoodIn wsX10_why (wsV RX10 102 RX1 yX1_isNight wsX1_isNight) := goodIn_app (goodIn_of _ (by decide +kernel)) ggX10_why_X1_isNight
set_option maxRecDepth 20000 in
theorem ggX10_why_X1_whyNot : GoodIn wsX10_why wsX1_whyNot := goodIn_r _ [25, 26, 27, 28, 29, 30, 31, 32, 33, 34, 35, 5, 36, 7, 37, 38, 10, 39, 40, 41, 42, 43, 44, 45, 46, 47, 48, 49, 50, 51, 52, 53, 54, 55, 56, 57, 58, 59, 60, 61, 62, 63, 64, 65, 66, 21, 67, 68, 69, 70, 71, 72, 73, 74, 75, 76, 77, 78, 79, 80, 81, 82, 83, 84, 85, 86, 87, 88, 89, 90, 91, 92, 93, 94, 95, 96, 97, 98, 99, 100, 101, 102, 103, 104, 105, 106, 107, 108, 109, 110, 111, 112, 113, 114, 115, 116, 117, 118, 119, 120, 121, 122, 123, 124, 125, 126, 127, 128, 129, 130, 131, 132, 142, 143, 144, 145, 146, 147, 148, 149, 150, 151, 152, 153, 154, 155, 156, 157, 158, 159, 160, 161, 162, 163, 164, 165, 166, 167, 168, 169, 170, 171, 172, 173, 174, 175] (by decide +kernel) (by decide +kernel)
set_option maxRecDepth 20000 in
theorem gX10_why_X1_whyNot : GoodIn wsX10_why (wsV RX10 105 RX1 yX1_whyNot wsX1_whyNot) := goodIn_app (goodIn_of _ (by decide +kernel)) ggX10_why_X1_whyNot
theorem dX10_why_0 : decode cX10_why 0 = .ok (.iload_n 1, 1) := by decide +kernel
theorem dX10_why_1 : decode cX10_why 1 = .ok (.iconst 1, 1) := by decide +kernel
theorem dX10_why_2 : decode cX10_why 2 = .ok (.if_icmp .lt 21, 3) := by decide +kernel
theorem dX10_why_5 : decode cX10_why 5 = .ok (.aload_n 0, 1) := by decide +kernel
theorem dX10_why_6 : decode cX10_why 6 = .ok (.getfield 10, 3) := by decide +kernel
theorem dX10_why_9 : decode cX10_why 9 = .ok (.iload_n 1, 1) := by decide +kernel
theorem dX10_why_10 : decode cX10_why 10 = .ok (.invokevirtual 99, 3) := by decide +kernel
theorem dX10_why_13 : decode cX10_why 13 = .ok (.ifCond .eq 10, 3) := by decide +kernel
theorem dX10_why_16 : decode cX10_why 16 = .ok (.iload_n 2, 1) := by decide +kernel
theorem dX10_why_17 : decode cX10_why 17 = .ok (.invokestatic 83, 3) := by decide +kernel
theorem dX10_why_20 : decode cX10_why 20 = .ok (.ifCond .ne 10, 3) := by decide +kernel
theorem dX10_why_23 : decode cX10_why 23 = .ok (.aload_n 0, 1) := by decide +kernel
theorem dX10_why_24 : decode cX10_why 24 = .ok (.bipush (-2), 2) := by decide +kernel
theorem dX10_why_26 : decode cX10_why 26 = .ok (.invokevirtual 49, 3) := by decide +kernel
theorem dX10_why_29 : decode cX10_why 29 = .ok (.ireturn, 1) := by decide +kernel
theorem dX10_why_30 : decode cX10_why 30 = .ok (.aload_n 0, 1) := by decide +kernel
theorem dX10_why_31 : decode cX10_why 31 = .ok (.getfield 10, 3) := by decide +kernel
theorem dX10_why_34 : decode cX10_why 34 = .ok (.iload_n 1, 1) := by decide +kernel
theorem dX10_why_35 : decode cX10_why 35 = .ok (.iload_n 2, 1) := by decide +kernel
theorem dX10_why_36 : decode cX10_why 36 = .ok (.aload_n 0, 1) := by decide +kernel
theorem dX10_why_37 : decode cX10_why 37 = .ok (.getfield 10, 3) := by decide +kernel
theorem dX10_why_40 : decode cX10_why 40 = .ok (.iload_n 2, 1) := by decide +kernel
theorem dX10_why_41 : decode cX10_why 41 = .ok (.invokevirtual 102, 3) := by decide +kernel
theorem dX10_why_44 : decode cX10_why 44 = .ok (.invokevirtual 105, 3) := by decide +kernel
theorem dX10_why_47 : decode cX10_why 47 = .ok (.ireturn, 1) := by decide +kernel
set_option maxRecDepth 20000 in
theorem ggX10_type_X10_bad : GoodIn wsX10_type wsX10_bad := goodIn_r _ [7, 8, 21, 22, 23, 24, 25, 26, 27, 28, 29] (by decide +kernel) (by decide +kernel)
set_option maxRecDepth 20000 in
theorem gX10_type_X10_bad : GoodIn wsX10_type (wsV RX10 49 RX10 yX10_bad wsX10_bad) := goodIn_app (goodIn_of _ (by decide +kernel)) ggX10_type_X10_bad
set_option maxRecDepth 20000 in
theorem ggX10_type_X10_full : GoodIn wsX10_type wsX10_full := goodIn_r _ [12, 13, 21, 22, 23, 24, 25, 26, 27, 28, 29] (by decide +kernel) (by decide +kernel)
set_option maxRecDepth 20000 in
theorem gX10_type_X10_full : GoodIn wsX10_type (wsV RX10 57 RX10 yX10_full wsX10_full) := goodIn_app (goodIn_of _ (by decide +kernel)) ggX10_type_X10_full
set_option maxRecDepth 20000 in
theorem ggX10_type_X1_addByte : GoodIn wsX10_type wsX1_addByte := goodIn_r _ [18, 19, 20, 30, 31, 32, 33, 34, 35, 36, 37, 38, 39] (by decide +kernel) (by decide +kernel)
set_option maxRecDepth 20000 in
theorem gX10_type_X1_addByte : GoodIn wsX10_type (wsV RX10 112 RX1 yX1_addByte wsX1_addByte) := goodIn_app (goodIn_of _ (by decide +kernel)) ggX10_type_X1_addByte
theorem dX10_type_0 : decode cX10_type 0 = .ok (.iload_n 3, 1) := by decide +kernel
theorem dX10_type_1 : decode cX10_type 1 = .ok (.iconst 1, 1) := by decide +kernel
theorem dX10_type_2 : decode cX10_type 2 = .ok (.if_icmp .lt 9, 3) := by decide +kernel
theorem dX10_type_5 : decode cX10_type 5 = .ok (.iload_n 3, 1) := by decide +kernel
theorem dX10_type_6 : decode cX10_type 6 = .ok (.bipush 8, 2) := by decide +kernel
theorem dX10_type_8 : decode cX10_type 8 = .ok (.if_icmp .le 10, 3) := by decide +kernel
theorem dX10_type_11 : decode cX10_type 11 = .ok (.aload_n 0, 1) := by decide +kernel
theorem dX10_type_12 : decode cX10_type 12 = .ok (.bipush (-2), 2) := by decide +kernel
theorem dX10_type_14 : decode cX10_type 14 = .ok (.invokevirtual 49, 3) := by decide +kernel
theorem dX10_type_17 : decode cX10_type 17 = .ok (.ireturn, 1) := by decide +kernel
theorem dX10_type_18 : decode cX10_type 18 = .ok (.aload_n 0, 1) := by decide +kernel
theorem dX10_type_19 : decode cX10_type 19 = .ok (.getfield 10, 3) := by decide +kernel
theorem dX10_type_22 : decode cX10_type 22 = .ok (.getfield 109, 3) := by decide +kernel
theorem dX10_type_25 : decode cX10_type 25 = .ok (.iload_n 3, 1) := by decide +kernel
theorem dX10_type_26 : decode cX10_type 26 = .ok (.iadd, 1) := by decide +kernel
theorem dX10_type_27 : decode cX10_type 27 = .ok (.sipush 200, 3) := by decide +kernel
theorem dX10_type_30 : decode cX10_type 30 = .ok (.if_icmp .le 8, 3) := by decide +kernel
theorem dX10_type_33 : decode cX10_type 33 = .ok (.aload_n 0, 1) := by decide +kernel
theorem dX10_type_34 : decode cX10_type 34 = .ok (.invokevirtual 57, 3) := by decide +kernel
theorem dX10_type_37 : decode cX10_type 37 = .ok (.ireturn, 1) := by decide +kernel
theorem dX10_type_38 : decode cX10_type 38 = .ok (.iload_n 3, 1) := by decide +kernel
theorem dX10_type_39 : decode cX10_type 39 = .ok (.iconst 1, 1) := by decide +kernel
theorem dX10_type_40 : decode cX10_type 40 = .ok (.isub, 1) := by decide +kernel
theorem dX10_type_41 : decode cX10_type 41 = .ok (.istore 4, 2) := by decide +kernel
theorem dX10_type_43 : decode cX10_type 43 = .ok (.iload 4, 2) := by decide +kernel
theorem dX10_type_45 : decode cX10_type 45 = .ok (.ifCond .lt 28, 3) := by decide +kernel
theorem dX10_type_48 : decode cX10_type 48 = .ok (.aload_n 0, 1) := by decide +kernel
theorem dX10_type_49 : decode cX10_type 49 = .ok (.getfield 10, 3) := by decide +kernel
theorem dX10_type_52 : decode cX10_type 52 = .ok (.lload_n 1, 1) := by decide +kernel
theorem dX10_type_53 : decode cX10_type 53 = .ok (.bipush 8, 2) := by decide +kernel
theorem dX10_type_55 : decode cX10_type 55 = .ok (.iload 4, 2) := by decide +kernel
theorem dX10_type_57 : decode cX10_type 57 = .ok (.imul, 1) := by decide +kernel
theorem dX10_type_58 : decode cX10_type 58 = .ok (.lushr, 1) := by decide +kernel
theorem dX10_type_59 : decode cX10_type 59 = .ok (.l2i, 1) := by decide +kernel
theorem dX10_type_60 : decode cX10_type 60 = .ok (.sipush 255, 3) := by decide +kernel
theorem dX10_type_63 : decode cX10_type 63 = .ok (.iand, 1) := by decide +kernel
theorem dX10_type_64 : decode cX10_type 64 = .ok (.invokevirtual 112, 3) := by decide +kernel
theorem dX10_type_67 : decode cX10_type 67 = .ok (.iinc 4 (-1), 3) := by decide +kernel
theorem dX10_type_70 : decode cX10_type 70 = .ok (.goto (-27), 3) := by decide +kernel
theorem dX10_type_73 : decode cX10_type 73 = .ok (.aload_n 0, 1) := by decide +kernel
theorem dX10_type_74 : decode cX10_type 74 = .ok (.getfield 10, 3) := by decide +kernel
theorem dX10_type_77 : decode cX10_type 77 = .ok (.getfield 109, 3) := by decide +kernel
theorem dX10_type_80 : decode cX10_type 80 = .ok (.ireturn, 1) := by decide +kernel
theorem dX10_clear_0 : decode cX10_clear 0 = .ok (.aload_n 0, 1) := by decide +kernel
theorem dX10_clear_1 : decode cX10_clear 1 = .ok (.getfield 10, 3) := by decide +kernel
theorem dX10_clear_4 : decode cX10_clear 4 = .ok (.getfield 109, 3) := by decide +kernel
theorem dX10_clear_7 : decode cX10_clear 7 = .ok (.istore_n 1, 1) := by decide +kernel
theorem dX10_clear_8 : decode cX10_clear 8 = .ok (.aload_n 0, 1) := by decide +kernel
theorem dX10_clear_9 : decode cX10_clear 9 = .ok (.getfield 10, 3) := by decide +kernel
theorem dX10_clear_12 : decode cX10_clear 12 = .ok (.iconst 0, 1) := by decide +kernel
theorem dX10_clear_13 : decode cX10_clear 13 = .ok (.putfield 109, 3) := by decide +kernel
theorem dX10_clear_16 : decode cX10_clear 16 = .ok (.iload_n 1, 1) := by decide +kernel
theorem dX10_clear_17 : decode cX10_clear 17 = .ok (.ireturn, 1) := by decide +kernel
set_option maxRecDepth 20000 in
theorem ggX10_read_X8_faultOf : GoodIn wsX10_read wsX8_faultOf := goodIn_r _ [9, 10, 11, 12, 13, 14, 15, 16, 17, 18, 19, 20, 21, 22, 23, 24, 25, 26, 27, 28, 29, 30, 31, 32, 33, 34, 35, 36, 37, 8, 38, 39, 40, 41, 42, 43, 44, 45, 46, 47, 48, 49, 50, 51, 52, 53, 54, 55, 56, 57, 58, 59, 60, 61, 62, 63, 64, 65, 66, 67, 68, 69, 70, 71, 72, 73, 74, 75, 76, 77, 78, 79, 80, 81, 82, 83, 84, 85, 86, 87, 88, 89, 90, 91, 92, 93, 94, 95, 96, 97, 98, 99, 100, 101, 102, 103, 104, 105, 106, 107, 108, 109, 110, 111, 112, 113, 114, 115, 116, 117, 118, 119, 120, 121, 122, 123, 124, 125, 126, 127, 128, 129, 130, 131, 132, 133, 134, 135, 136, 137, 138, 139, 140, 141, 142, 143, 144, 145, 146, 147, 148, 149, 150, 151, 152, 153, 154, 155, 156, 157, 158, 159, 160, 161, 162, 163, 164, 165, 166, 167, 168, 169, 170, 171, 172, 173, 174, 175, 176, 177, 178, 179, 180, 181, 182, 183, 184, 185, 186, 187, 188, 189, 190, 191, 222, 223, 224, 225, 226, 227, 228, 229, 230, 231, 213, 214, 215, 216, 217, 218, 219, 220, 221, 232, 233, 234, 235, 236, 237, 238, 239, 240, 241, 242, 243, 244, 245, 246, 247, 248, 249, 250, 251, 252, 253, 254, 255] (by decide +kernel) (by decide +kernel)
set_option maxRecDepth 20000 in
theorem gX10_read_X8_faultOf : GoodIn wsX10_read (wsV RX10 116 RX8 yX8_faultOf wsX8_faultOf) := goodIn_app (goodIn_of _ (by decide +kernel)) ggX10_read_X8_faultOf
set_option maxRecDepth 20000 in
theorem ggX10_read_X10_changed : GoodIn wsX10_read wsX10_changed := goodIn_r _ [195, 196, 197, 198, 199, 204, 205, 206, 207, 208, 209, 210, 211, 212, 256, 257, 258, 259, 260, 261, 262, 263, 264, 265, 266, 267, 268, 269, 270, 271, 272, 273, 274, 275, 276] (by decide +kernel) (by decide +kernel)
set_option maxRecDepth 20000 in
theorem gX10_read_X10_changed : GoodIn wsX10_read (wsV RX10 61 RX10 yX10_changed wsX10_changed) := goodIn_app (goodIn_of _ (by decide +kernel)) ggX10_read_X10_changed
set_option maxRecDepth 20000 in
theorem ggX10_read_X1_takeDay : GoodIn wsX10_read wsX1_takeDay := goodIn_r _ [203, 175, 30, 31, 32, 33, 34, 185, 186, 28, 29, 222, 223, 224, 225, 226, 227, 228, 229, 230, 231] (by decide +kernel) (by decide +kernel)
set_option maxRecDepth 20000 in
theorem gX10_read_X1_takeDay : GoodIn wsX10_read (wsV RX10 123 RX1 yX1_takeDay wsX1_takeDay) := goodIn_app (goodIn_of _ (by decide +kernel)) ggX10_read_X1_takeDay
theorem dX10_read_0 : decode cX10_read 0 = .ok (.aload_n 0, 1) := by decide +kernel
theorem dX10_read_1 : decode cX10_read 1 = .ok (.getfield 27, 3) := by decide +kernel
theorem dX10_read_4 : decode cX10_read 4 = .ok (.aload_n 0, 1) := by decide +kernel
theorem dX10_read_5 : decode cX10_read 5 = .ok (.getfield 10, 3) := by decide +kernel
theorem dX10_read_8 : decode cX10_read 8 = .ok (.invokevirtual 116, 3) := by decide +kernel
theorem dX10_read_11 : decode cX10_read 11 = .ok (.istore_n 1, 1) := by decide +kernel
theorem dX10_read_12 : decode cX10_read 12 = .ok (.iload_n 1, 1) := by decide +kernel
theorem dX10_read_13 : decode cX10_read 13 = .ok (.iconst (-1), 1) := by decide +kernel
theorem dX10_read_14 : decode cX10_read 14 = .ok (.if_icmp .eq 8, 3) := by decide +kernel
theorem dX10_read_17 : decode cX10_read 17 = .ok (.bipush (-10), 2) := by decide +kernel
theorem dX10_read_19 : decode cX10_read 19 = .ok (.iload_n 1, 1) := by decide +kernel
theorem dX10_read_20 : decode cX10_read 20 = .ok (.isub, 1) := by decide +kernel
theorem dX10_read_21 : decode cX10_read 21 = .ok (.ireturn, 1) := by decide +kernel
theorem dX10_read_22 : decode cX10_read 22 = .ok (.aload_n 0, 1) := by decide +kernel
theorem dX10_read_23 : decode cX10_read 23 = .ok (.invokevirtual 61, 3) := by decide +kernel
theorem dX10_read_26 : decode cX10_read 26 = .ok (.aload_n 0, 1) := by decide +kernel
theorem dX10_read_27 : decode cX10_read 27 = .ok (.getfield 10, 3) := by decide +kernel
theorem dX10_read_30 : decode cX10_read 30 = .ok (.aload_n 0, 1) := by decide +kernel
theorem dX10_read_31 : decode cX10_read 31 = .ok (.getfield 27, 3) := by decide +kernel
theorem dX10_read_34 : decode cX10_read 34 = .ok (.getfield 120, 3) := by decide +kernel
theorem dX10_read_37 : decode cX10_read 37 = .ok (.invokevirtual 123, 3) := by decide +kernel
theorem dX10_read_40 : decode cX10_read 40 = .ok (.aload_n 0, 1) := by decide +kernel
theorem dX10_read_41 : decode cX10_read 41 = .ok (.getfield 10, 3) := by decide +kernel
theorem dX10_read_44 : decode cX10_read 44 = .ok (.getfield 127, 3) := by decide +kernel
theorem dX10_read_47 : decode cX10_read 47 = .ok (.ireturn, 1) := by decide +kernel
set_option maxRecDepth 20000 in
theorem ggX10_judged_X1_firstNoGo : GoodIn wsX10_judged wsX1_firstNoGo := goodIn_r _ [6, 7, 8, 9, 10, 11, 12, 5, 13, 14, 15, 16, 17, 18, 19, 20, 21, 22, 23, 24, 25, 26, 27, 28, 29, 30, 31, 32, 33, 34, 35, 36, 37, 38, 39, 40, 41, 42, 43, 44, 45, 46, 47, 48, 49, 50, 51, 52, 53, 54, 55, 56, 57, 58, 59, 60, 61, 62, 63, 64, 65, 66, 67, 68, 69, 70, 71, 72, 73, 74, 75, 76, 77, 78, 79, 80, 81, 82, 83, 84, 85, 86, 87, 88, 89, 90, 91, 92, 93, 94, 95, 96, 97, 98, 99, 100, 101, 102, 103, 104, 105, 106, 107, 108, 109, 110, 111, 112, 113, 114, 115, 116, 117, 118, 119, 120, 121, 122, 123, 124, 125, 126, 127, 128, 129, 130, 131, 132, 133, 143, 144, 145, 146, 147, 148, 149, 150, 151, 152, 153, 154, 155, 156, 157, 158, 159, 160, 161, 162, 163, 164, 165, 166, 167, 168, 169, 170, 171, 172, 173, 174, 175, 176] (by decide +kernel) (by decide +kernel)
set_option maxRecDepth 20000 in
theorem gX10_judged_X1_firstNoGo : GoodIn wsX10_judged (wsV RX10 130 RX1 yX1_firstNoGo wsX1_firstNoGo) := goodIn_app (goodIn_of _ (by decide +kernel)) ggX10_judged_X1_firstNoGo
theorem dX10_judged_0 : decode cX10_judged 0 = .ok (.aload_n 0, 1) := by decide +kernel
theorem dX10_judged_1 : decode cX10_judged 1 = .ok (.getfield 10, 3) := by decide +kernel
theorem dX10_judged_4 : decode cX10_judged 4 = .ok (.invokevirtual 130, 3) := by decide +kernel
theorem dX10_judged_7 : decode cX10_judged 7 = .ok (.ireturn, 1) := by decide +kernel
set_option maxRecDepth 20000 in
theorem ggX10_there_X1_firstNoGo : GoodIn wsX10_there wsX1_firstNoGo := goodIn_r _ [8, 9, 10, 11, 12, 13, 14, 7, 15, 16, 17, 18, 19, 20, 21, 22, 23, 24, 25, 26, 27, 28, 29, 30, 31, 32, 33, 34, 35, 36, 37, 38, 39, 40, 41, 42, 43, 44, 45, 46, 47, 48, 49, 50, 51, 52, 53, 54, 55, 56, 57, 58, 59, 60, 61, 62, 63, 64, 65, 66, 67, 68, 69, 70, 71, 72, 73, 74, 75, 76, 77, 78, 79, 80, 81, 82, 83, 84, 85, 86, 87, 88, 89, 90, 91, 92, 93, 94, 95, 96, 97, 98, 99, 100, 101, 102, 103, 104, 105, 106, 107, 108, 109, 110, 111, 112, 113, 114, 115, 116, 117, 118, 119, 120, 121, 122, 123, 124, 125, 126, 127, 128, 129, 130, 131, 132, 133, 134, 135, 145, 146, 147, 148, 149, 150, 151, 152, 153, 154, 155, 156, 157, 158, 159, 160, 161, 162, 163, 164, 165, 166, 167, 168, 169, 170, 171, 172, 173, 174, 175, 176, 177, 178] (by decide +kernel) (by decide +kernel)
set_option maxRecDepth 20000 in
theorem gX10_there_X1_firstNoGo : GoodIn wsX10_there (wsV RX10 130 RX1 yX1_firstNoGo wsX1_firstNoGo) := goodIn_app (goodIn_of _ (by decide +kernel)) ggX10_there_X1_firstNoGo
theorem dX10_there_0 : decode cX10_there 0 = .ok (.aload_n 0, 1) := by decide +kernel
theorem dX10_there_1 : decode cX10_there 1 = .ok (.getfield 10, 3) := by decide +kernel
theorem dX10_there_4 : decode cX10_there 4 = .ok (.invokevirtual 130, 3) := by decide +kernel
theorem dX10_there_7 : decode cX10_there 7 = .ok (.istore_n 1, 1) := by decide +kernel
theorem dX10_there_8 : decode cX10_there 8 = .ok (.iload_n 1, 1) := by decide +kernel
theorem dX10_there_9 : decode cX10_there 9 = .ok (.iconst (-1), 1) := by decide +kernel
theorem dX10_there_10 : decode cX10_there 10 = .ok (.if_icmp .ne 13, 3) := by decide +kernel
theorem dX10_there_13 : decode cX10_there 13 = .ok (.aload_n 0, 1) := by decide +kernel
theorem dX10_there_14 : decode cX10_there 14 = .ok (.getfield 10, 3) := by decide +kernel
theorem dX10_there_17 : decode cX10_there 17 = .ok (.getfield 127, 3) := by decide +kernel
theorem dX10_there_20 : decode cX10_there 20 = .ok (.goto 7, 3) := by decide +kernel
theorem dX10_there_23 : decode cX10_there 23 = .ok (.iload_n 1, 1) := by decide +kernel
theorem dX10_there_24 : decode cX10_there 24 = .ok (.bipush 10, 2) := by decide +kernel
theorem dX10_there_26 : decode cX10_there 26 = .ok (.idiv, 1) := by decide +kernel
theorem dX10_there_27 : decode cX10_there 27 = .ok (.istore_n 2, 1) := by decide +kernel
theorem dX10_there_28 : decode cX10_there 28 = .ok (.iconst 0, 1) := by decide +kernel
theorem dX10_there_29 : decode cX10_there 29 = .ok (.istore_n 3, 1) := by decide +kernel
theorem dX10_there_30 : decode cX10_there 30 = .ok (.iconst 0, 1) := by decide +kernel
theorem dX10_there_31 : decode cX10_there 31 = .ok (.istore 4, 2) := by decide +kernel
theorem dX10_there_33 : decode cX10_there 33 = .ok (.iload 4, 2) := by decide +kernel
theorem dX10_there_35 : decode cX10_there 35 = .ok (.iload_n 2, 1) := by decide +kernel
theorem dX10_there_36 : decode cX10_there 36 = .ok (.if_icmp .ge 29, 3) := by decide +kernel
theorem dX10_there_39 : decode cX10_there 39 = .ok (.iload 4, 2) := by decide +kernel
theorem dX10_there_41 : decode cX10_there 41 = .ok (.bipush 20, 2) := by decide +kernel
theorem dX10_there_43 : decode cX10_there 43 = .ok (.if_icmp .ge 22, 3) := by decide +kernel
theorem dX10_there_46 : decode cX10_there 46 = .ok (.iload_n 3, 1) := by decide +kernel
theorem dX10_there_47 : decode cX10_there 47 = .ok (.aload_n 0, 1) := by decide +kernel
theorem dX10_there_48 : decode cX10_there 48 = .ok (.getfield 10, 3) := by decide +kernel
theorem dX10_there_51 : decode cX10_there 51 = .ok (.getfield 133, 3) := by decide +kernel
theorem dX10_there_54 : decode cX10_there 54 = .ok (.iload 4, 2) := by decide +kernel
theorem dX10_there_56 : decode cX10_there 56 = .ok (.iaload, 1) := by decide +kernel
theorem dX10_there_57 : decode cX10_there 57 = .ok (.ixor, 1) := by decide +kernel
theorem dX10_there_58 : decode cX10_there 58 = .ok (.istore_n 3, 1) := by decide +kernel
theorem dX10_there_59 : decode cX10_there 59 = .ok (.iinc 4 1, 3) := by decide +kernel
theorem dX10_there_62 : decode cX10_there 62 = .ok (.goto (-29), 3) := by decide +kernel
theorem dX10_there_65 : decode cX10_there 65 = .ok (.iload_n 3, 1) := by decide +kernel
theorem dX10_there_66 : decode cX10_there 66 = .ok (.ireturn, 1) := by decide +kernel
set_option maxRecDepth 20000 in
theorem ggX10_least_X1_hasSet : GoodIn wsX10_least wsX1_hasSet := goodIn_r _ [10, 11, 237, 238, 239, 240, 241, 242, 243, 244, 245, 246] (by decide +kernel) (by decide +kernel)
set_option maxRecDepth 20000 in
theorem gX10_least_X1_hasSet : GoodIn wsX10_least (wsV RX10 99 RX1 yX1_hasSet wsX1_hasSet) := goodIn_app (goodIn_of _ (by decide +kernel)) ggX10_least_X1_hasSet
set_option maxRecDepth 20000 in
theorem ggX10_least_X10_bad : GoodIn wsX10_least wsX10_bad := goodIn_r _ [16, 17, 216, 217, 218, 219, 220, 221, 222, 223, 224] (by decide +kernel) (by decide +kernel)
set_option maxRecDepth 20000 in
theorem gX10_least_X10_bad : GoodIn wsX10_least (wsV RX10 49 RX10 yX10_bad wsX10_bad) := goodIn_app (goodIn_of _ (by decide +kernel)) ggX10_least_X10_bad
set_option maxRecDepth 20000 in
theorem ggX10_least_X7_plan : GoodIn wsX10_least wsX7_plan := goodIn_r _ [22, 23, 24, 25, 26, 27, 28, 29, 30, 31, 32, 33, 9, 34, 11, 35, 36, 37, 38, 39, 40, 15, 41, 42, 43, 44, 45, 46, 47, 48, 49, 50, 51, 52, 53, 54, 55, 56, 57, 58, 59, 60, 61, 62, 63, 64, 65, 66, 67, 68, 21, 69, 70, 71, 72, 73, 74, 75, 76, 7, 8, 10, 77, 78, 79, 80, 81, 82, 83, 84, 85, 86, 87, 88, 89, 90, 91, 92, 93, 94, 95, 96, 97, 98, 99, 100, 101, 102, 103, 104, 105, 106, 107, 108, 109, 110, 111, 112, 113, 114, 115, 116, 117, 118, 119, 120, 121, 122, 123, 124, 125, 126, 127, 128, 129, 130, 131, 132, 133, 134, 135, 136, 137, 138, 139, 140, 141, 142, 143, 144, 145, 146, 147, 148, 149, 150, 151, 152, 153, 154, 155, 156, 157, 158, 159, 160, 161, 162, 163, 164, 165, 166, 167, 168, 169, 170, 171, 172, 173, 174, 175, 176, 177, 178, 179, 180, 181, 182, 183, 184, 185, 186, 187, 188, 189, 190, 191, 192, 193, 194, 195, 196, 197, 198, 199, 200, 201, 202, 203, 204, 205, 206, 207, 208, 209, 210, 211, 212, 213, 214, 215, 225, 226, 227, 228, 229, 230, 231, 232, 233, 234, 235, 236, 237, 238, 239, 240, 241, 242, 243, 244, 245, 246, 247, 248, 249, 250, 251, 252, 253, 254, 255, 256, 257, 258, 259, 260, 261, 262, 263, 264, 265, 266, 267, 268, 269, 270] (by decide +kernel) (by decide +kernel)
set_option maxRecDepth 20000 in
theorem gX10_least_X7_plan : GoodIn wsX10_least (wsV RX10 136 RX7 yX7_plan wsX7_plan) := goodIn_app (goodIn_of _ (by decide +kernel)) ggX10_least_X7_plan
theorem dX10_least_0 : decode cX10_least 0 = .ok (.aload_n 0, 1) := by decide +kernel
theorem dX10_least_1 : decode cX10_least 1 = .ok (.getfield 10, 3) := by decide +kernel
theorem dX10_least_4 : decode cX10_least 4 = .ok (.iload_n 1, 1) := by decide +kernel
theorem dX10_least_5 : decode cX10_least 5 = .ok (.invokevirtual 99, 3) := by decide +kernel
theorem dX10_least_8 : decode cX10_least 8 = .ok (.ifCond .eq 12, 3) := by decide +kernel
theorem dX10_least_11 : decode cX10_least 11 = .ok (.iload_n 2, 1) := by decide +kernel
theorem dX10_least_12 : decode cX10_least 12 = .ok (.ifCond .lt 8, 3) := by decide +kernel
theorem dX10_least_15 : decode cX10_least 15 = .ok (.iload_n 2, 1) := by decide +kernel
theorem dX10_least_16 : decode cX10_least 16 = .ok (.iconst 2, 1) := by decide +kernel
theorem dX10_least_17 : decode cX10_least 17 = .ok (.if_icmp .le 10, 3) := by decide +kernel
theorem dX10_least_20 : decode cX10_least 20 = .ok (.aload_n 0, 1) := by decide +kernel
theorem dX10_least_21 : decode cX10_least 21 = .ok (.bipush (-2), 2) := by decide +kernel
theorem dX10_least_23 : decode cX10_least 23 = .ok (.invokevirtual 49, 3) := by decide +kernel
theorem dX10_least_26 : decode cX10_least 26 = .ok (.ireturn, 1) := by decide +kernel
theorem dX10_least_27 : decode cX10_least 27 = .ok (.aload_n 0, 1) := by decide +kernel
theorem dX10_least_28 : decode cX10_least 28 = .ok (.getfield 34, 3) := by decide +kernel
theorem dX10_least_31 : decode cX10_least 31 = .ok (.aload_n 0, 1) := by decide +kernel
theorem dX10_least_32 : decode cX10_least 32 = .ok (.getfield 10, 3) := by decide +kernel
theorem dX10_least_35 : decode cX10_least 35 = .ok (.iload_n 1, 1) := by decide +kernel
theorem dX10_least_36 : decode cX10_least 36 = .ok (.iconst 0, 1) := by decide +kernel
theorem dX10_least_37 : decode cX10_least 37 = .ok (.invokevirtual 136, 3) := by decide +kernel
theorem dX10_least_40 : decode cX10_least 40 = .ok (.aload_n 0, 1) := by decide +kernel
theorem dX10_least_41 : decode cX10_least 41 = .ok (.getfield 34, 3) := by decide +kernel
theorem dX10_least_44 : decode cX10_least 44 = .ok (.getfield 140, 3) := by decide +kernel
theorem dX10_least_47 : decode cX10_least 47 = .ok (.iconst (-1), 1) := by decide +kernel
theorem dX10_least_48 : decode cX10_least 48 = .ok (.if_icmp .ne 5, 3) := by decide +kernel
theorem dX10_least_51 : decode cX10_least 51 = .ok (.iconst (-1), 1) := by decide +kernel
theorem dX10_least_52 : decode cX10_least 52 = .ok (.ireturn, 1) := by decide +kernel
theorem dX10_least_53 : decode cX10_least 53 = .ok (.iload_n 2, 1) := by decide +kernel
theorem dX10_least_54 : decode cX10_least 54 = .ok (.ifCond .ne 13, 3) := by decide +kernel
theorem dX10_least_57 : decode cX10_least 57 = .ok (.aload_n 0, 1) := by decide +kernel
theorem dX10_least_58 : decode cX10_least 58 = .ok (.getfield 34, 3) := by decide +kernel
theorem dX10_least_61 : decode cX10_least 61 = .ok (.getfield 140, 3) := by decide +kernel
theorem dX10_least_64 : decode cX10_least 64 = .ok (.goto 25, 3) := by decide +kernel
theorem dX10_least_67 : decode cX10_least 67 = .ok (.iload_n 2, 1) := by decide +kernel
theorem dX10_least_68 : decode cX10_least 68 = .ok (.iconst 1, 1) := by decide +kernel
theorem dX10_least_69 : decode cX10_least 69 = .ok (.if_icmp .ne 13, 3) := by decide +kernel
theorem dX10_least_72 : decode cX10_least 72 = .ok (.aload_n 0, 1) := by decide +kernel
theorem dX10_least_73 : decode cX10_least 73 = .ok (.getfield 34, 3) := by decide +kernel
theorem dX10_least_76 : decode cX10_least 76 = .ok (.getfield 142, 3) := by decide +kernel
theorem dX10_least_79 : decode cX10_least 79 = .ok (.goto 10, 3) := by decide +kernel
theorem dX10_least_82 : decode cX10_least 82 = .ok (.aload_n 0, 1) := by decide +kernel
theorem dX10_least_83 : decode cX10_least 83 = .ok (.getfield 34, 3) := by decide +kernel
theorem dX10_least_86 : decode cX10_least 86 = .ok (.getfield 145, 3) := by decide +kernel
theorem dX10_least_89 : decode cX10_least 89 = .ok (.ireturn, 1) := by decide +kernel
set_option maxRecDepth 20000 in
theorem ggX10_row_X1_hasSet : GoodIn wsX10_row wsX1_hasSet := goodIn_r _ [10, 11, 237, 238, 239, 240, 241, 242, 243, 244, 245, 246] (by decide +kernel) (by decide +kernel)
set_option maxRecDepth 20000 in
theorem gX10_row_X1_hasSet : GoodIn wsX10_row (wsV RX10 99 RX1 yX1_hasSet wsX1_hasSet) := goodIn_app (goodIn_of _ (by decide +kernel)) ggX10_row_X1_hasSet
set_option maxRecDepth 20000 in
theorem ggX10_row_X10_bad : GoodIn wsX10_row wsX10_bad := goodIn_r _ [16, 17, 216, 217, 218, 219, 220, 221, 222, 223, 224] (by decide +kernel) (by decide +kernel)
set_option maxRecDepth 20000 in
theorem gX10_row_X10_bad : GoodIn wsX10_row (wsV RX10 49 RX10 yX10_bad wsX10_bad) := goodIn_app (goodIn_of _ (by decide +kernel)) ggX10_row_X10_bad
set_option maxRecDepth 20000 in
theorem ggX10_row_X7_plan : GoodIn wsX10_row wsX7_plan := goodIn_r _ [22, 23, 24, 25, 26, 27, 28, 29, 30, 31, 32, 33, 9, 34, 11, 35, 36, 37, 38, 39, 40, 15, 41, 42, 43, 44, 45, 46, 47, 48, 49, 50, 51, 52, 53, 54, 55, 56, 57, 58, 59, 60, 61, 62, 63, 64, 65, 66, 67, 68, 21, 69, 70, 71, 72, 73, 74, 75, 76, 7, 8, 10, 77, 78, 79, 80, 81, 82, 83, 84, 85, 86, 87, 88, 89, 90, 91, 92, 93, 94, 95, 96, 97, 98, 99, 100, 101, 102, 103, 104, 105, 106, 107, 108, 109, 110, 111, 112, 113, 114, 115, 116, 117, 118, 119, 120, 121, 122, 123, 124, 125, 126, 127, 128, 129, 130, 131, 132, 133, 134, 135, 136, 137, 138, 139, 140, 141, 142, 143, 144, 145, 146, 147, 148, 149, 150, 151, 152, 153, 154, 155, 156, 157, 158, 159, 160, 161, 162, 163, 164, 165, 166, 167, 168, 169, 170, 171, 172, 173, 174, 175, 176, 177, 178, 179, 180, 181, 182, 183, 184, 185, 186, 187, 188, 189, 190, 191, 192, 193, 194, 195, 196, 197, 198, 199, 200, 201, 202, 203, 204, 205, 206, 207, 208, 209, 210, 211, 212, 213, 214, 215, 225, 226, 227, 228, 229, 230, 231, 232, 233, 234, 235, 236, 237, 238, 239, 240, 241, 242, 243, 244, 245, 246, 247, 248, 249, 250, 251, 252, 253, 254, 255, 256, 257, 258, 259, 260, 261, 262, 263, 264, 265, 266, 267, 268, 269, 270] (by decide +kernel) (by decide +kernel)
set_option maxRecDepth 20000 in
theorem gX10_row_X7_plan : GoodIn wsX10_row (wsV RX10 136 RX7 yX7_plan wsX7_plan) := goodIn_app (goodIn_of _ (by decide +kernel)) ggX10_row_X7_plan
theorem dX10_row_0 : decode cX10_row 0 = .ok (.aload_n 0, 1) := by decide +kernel
theorem dX10_row_1 : decode cX10_row 1 = .ok (.getfield 10, 3) := by decide +kernel
theorem dX10_row_4 : decode cX10_row 4 = .ok (.iload_n 1, 1) := by decide +kernel
theorem dX10_row_5 : decode cX10_row 5 = .ok (.invokevirtual 99, 3) := by decide +kernel
theorem dX10_row_8 : decode cX10_row 8 = .ok (.ifCond .eq 7, 3) := by decide +kernel
theorem dX10_row_11 : decode cX10_row 11 = .ok (.iload_n 2, 1) := by decide +kernel
theorem dX10_row_12 : decode cX10_row 12 = .ok (.ifCond .ge 10, 3) := by decide +kernel
theorem dX10_row_15 : decode cX10_row 15 = .ok (.aload_n 0, 1) := by decide +kernel
theorem dX10_row_16 : decode cX10_row 16 = .ok (.bipush (-10), 2) := by decide +kernel
theorem dX10_row_18 : decode cX10_row 18 = .ok (.invokevirtual 49, 3) := by decide +kernel
theorem dX10_row_21 : decode cX10_row 21 = .ok (.ireturn, 1) := by decide +kernel
theorem dX10_row_22 : decode cX10_row 22 = .ok (.aload_n 0, 1) := by decide +kernel
theorem dX10_row_23 : decode cX10_row 23 = .ok (.getfield 34, 3) := by decide +kernel
theorem dX10_row_26 : decode cX10_row 26 = .ok (.aload_n 0, 1) := by decide +kernel
theorem dX10_row_27 : decode cX10_row 27 = .ok (.getfield 10, 3) := by decide +kernel
theorem dX10_row_30 : decode cX10_row 30 = .ok (.iload_n 1, 1) := by decide +kernel
theorem dX10_row_31 : decode cX10_row 31 = .ok (.iconst 0, 1) := by decide +kernel
theorem dX10_row_32 : decode cX10_row 32 = .ok (.invokevirtual 136, 3) := by decide +kernel
theorem dX10_row_35 : decode cX10_row 35 = .ok (.aload_n 0, 1) := by decide +kernel
theorem dX10_row_36 : decode cX10_row 36 = .ok (.getfield 34, 3) := by decide +kernel
theorem dX10_row_39 : decode cX10_row 39 = .ok (.getfield 140, 3) := by decide +kernel
theorem dX10_row_42 : decode cX10_row 42 = .ok (.iconst (-1), 1) := by decide +kernel
theorem dX10_row_43 : decode cX10_row 43 = .ok (.if_icmp .eq 21, 3) := by decide +kernel
theorem dX10_row_46 : decode cX10_row 46 = .ok (.iload_n 2, 1) := by decide +kernel
theorem dX10_row_47 : decode cX10_row 47 = .ok (.aload_n 0, 1) := by decide +kernel
theorem dX10_row_48 : decode cX10_row 48 = .ok (.getfield 34, 3) := by decide +kernel
theorem dX10_row_51 : decode cX10_row 51 = .ok (.getfield 145, 3) := by decide +kernel
theorem dX10_row_54 : decode cX10_row 54 = .ok (.if_icmp .ge 10, 3) := by decide +kernel
theorem dX10_row_57 : decode cX10_row 57 = .ok (.iload_n 2, 1) := by decide +kernel
theorem dX10_row_58 : decode cX10_row 58 = .ok (.sipush 240, 3) := by decide +kernel
theorem dX10_row_61 : decode cX10_row 61 = .ok (.if_icmp .lt 6, 3) := by decide +kernel
theorem dX10_row_64 : decode cX10_row 64 = .ok (.bipush (-5), 2) := by decide +kernel
theorem dX10_row_66 : decode cX10_row 66 = .ok (.ireturn, 1) := by decide +kernel
theorem dX10_row_67 : decode cX10_row 67 = .ok (.aload_n 0, 1) := by decide +kernel
theorem dX10_row_68 : decode cX10_row 68 = .ok (.getfield 34, 3) := by decide +kernel
theorem dX10_row_71 : decode cX10_row 71 = .ok (.getfield 148, 3) := by decide +kernel
theorem dX10_row_74 : decode cX10_row 74 = .ok (.iload_n 2, 1) := by decide +kernel
theorem dX10_row_75 : decode cX10_row 75 = .ok (.iaload, 1) := by decide +kernel
theorem dX10_row_76 : decode cX10_row 76 = .ok (.ireturn, 1) := by decide +kernel
set_option maxRecDepth 20000 in
theorem ggX10_worth_X1_hasSet : GoodIn wsX10_worth wsX1_hasSet := goodIn_r _ [10, 11, 241, 242, 243, 244, 245, 246, 247, 248, 249, 250] (by decide +kernel) (by decide +kernel)
set_option maxRecDepth 20000 in
theorem gX10_worth_X1_hasSet : GoodIn wsX10_worth (wsV RX10 99 RX1 yX1_hasSet wsX1_hasSet) := goodIn_app (goodIn_of _ (by decide +kernel)) ggX10_worth_X1_hasSet
set_option maxRecDepth 20000 in
theorem ggX10_worth_X1_hasPorter : GoodIn wsX10_worth wsX1_hasPorter := goodIn_r _ [15, 11, 241, 242, 243, 244, 245, 246, 247, 248, 249, 250] (by decide +kernel) (by decide +kernel)
set_option maxRecDepth 20000 in
theorem gX10_worth_X1_hasPorter : GoodIn wsX10_worth (wsV RX10 79 RX1 yX1_hasPorter wsX1_hasPorter) := goodIn_app (goodIn_of _ (by decide +kernel)) ggX10_worth_X1_hasPorter
set_option maxRecDepth 20000 in
theorem ggX10_worth_X10_hasPorterIn : GoodIn wsX10_worth wsX10_hasPorterIn := goodIn_r _ [19] (by decide +kernel) (by decide +kernel)
set_option maxRecDepth 20000 in
theorem gX10_worth_X10_hasPorterIn : GoodIn wsX10_worth (va_wsS RX10 151 yX10_hasPorterIn wsX10_hasPorterIn) := goodIn_app (goodIn_of _ (by decide +kernel)) ggX10_worth_X10_hasPorterIn
set_option maxRecDepth 20000 in
theorem ggX10_worth_X10_bad : GoodIn wsX10_worth wsX10_bad := goodIn_r _ [23, 24, 220, 221, 222, 223, 224, 225, 226, 227, 228] (by decide +kernel) (by decide +kernel)
set_option maxRecDepth 20000 in
theorem gX10_worth_X10_bad : GoodIn wsX10_worth (wsV RX10 49 RX10 yX10_bad wsX10_bad) := goodIn_app (goodIn_of _ (by decide +kernel)) ggX10_worth_X10_bad
set_option maxRecDepth 20000 in
theorem ggX10_worth_X7_plan : GoodIn wsX10_worth wsX7_plan := goodIn_r _ [29, 30, 31, 32, 33, 34, 35, 36, 37, 38, 39, 40, 9, 41, 11, 42, 43, 44, 45, 46, 17, 18, 19, 47, 48, 49, 50, 51, 52, 53, 54, 55, 56, 57, 58, 59, 60, 61, 62, 63, 64, 65, 66, 67, 68, 69, 70, 71, 72, 73, 28, 74, 75, 76, 77, 78, 79, 80, 81, 7, 8, 10, 82, 83, 84, 85, 86, 87, 88, 89, 90, 91, 92, 93, 94, 95, 96, 97, 98, 99, 100, 101, 102, 103, 104, 105, 106, 107, 108, 109, 110, 111, 112, 113, 114, 115, 116, 117, 118, 119, 120, 121, 122, 123, 124, 125, 126, 127, 128, 129, 130, 131, 132, 133, 134, 135, 136, 137, 138, 139, 140, 141, 142, 143, 144, 145, 146, 147, 148, 149, 150, 151, 152, 153, 154, 155, 156, 157, 158, 159, 160, 161, 162, 163, 164, 165, 166, 167, 168, 169, 170, 171, 172, 16, 173, 174, 175, 176, 177, 178, 179, 180, 181, 182, 183, 184, 185, 186, 187, 188, 189, 190, 191, 192, 193, 194, 195, 196, 197, 198, 199, 200, 201, 202, 203, 204, 205, 206, 207, 208, 209, 210, 211, 212, 213, 214, 215, 216, 217, 218, 219, 229, 230, 231, 232, 233, 234, 235, 236, 237, 238, 239, 240, 241, 242, 243, 244, 245, 246, 247, 248, 249, 250, 251, 252, 253, 254, 255, 256, 257, 258, 259, 260, 261, 262, 263, 264, 265, 266, 267, 268, 269, 270, 271, 272, 273, 274] (by decide +kernel) (by decide +kernel)
set_option maxRecDepth 20000 in
theorem gX10_worth_X7_plan : GoodIn wsX10_worth (wsV RX10 136 RX7 yX7_plan wsX7_plan) := goodIn_app (goodIn_of _ (by decide +kernel)) ggX10_worth_X7_plan
theorem dX10_worth_0 : decode cX10_worth 0 = .ok (.aload_n 0, 1) := by decide +kernel
theorem dX10_worth_1 : decode cX10_worth 1 = .ok (.getfield 10, 3) := by decide +kernel
theorem dX10_worth_4 : decode cX10_worth 4 = .ok (.iload_n 1, 1) := by decide +kernel
theorem dX10_worth_5 : decode cX10_worth 5 = .ok (.invokevirtual 99, 3) := by decide +kernel
theorem dX10_worth_8 : decode cX10_worth 8 = .ok (.ifCond .eq 22, 3) := by decide +kernel
theorem dX10_worth_11 : decode cX10_worth 11 = .ok (.aload_n 0, 1) := by decide +kernel
theorem dX10_worth_12 : decode cX10_worth 12 = .ok (.getfield 10, 3) := by decide +kernel
theorem dX10_worth_15 : decode cX10_worth 15 = .ok (.iload_n 2, 1) := by decide +kernel
theorem dX10_worth_16 : decode cX10_worth 16 = .ok (.invokevirtual 79, 3) := by decide +kernel
theorem dX10_worth_19 : decode cX10_worth 19 = .ok (.ifCond .eq 11, 3) := by decide +kernel
theorem dX10_worth_22 : decode cX10_worth 22 = .ok (.iload_n 1, 1) := by decide +kernel
theorem dX10_worth_23 : decode cX10_worth 23 = .ok (.iload_n 2, 1) := by decide +kernel
theorem dX10_worth_24 : decode cX10_worth 24 = .ok (.invokestatic 151, 3) := by decide +kernel
theorem dX10_worth_27 : decode cX10_worth 27 = .ok (.ifCond .eq 11, 3) := by decide +kernel
theorem dX10_worth_30 : decode cX10_worth 30 = .ok (.aload_n 0, 1) := by decide +kernel
theorem dX10_worth_31 : decode cX10_worth 31 = .ok (.sipush (-1000), 3) := by decide +kernel
theorem dX10_worth_34 : decode cX10_worth 34 = .ok (.invokevirtual 49, 3) := by decide +kernel
theorem dX10_worth_37 : decode cX10_worth 37 = .ok (.ireturn, 1) := by decide +kernel
theorem dX10_worth_38 : decode cX10_worth 38 = .ok (.aload_n 0, 1) := by decide +kernel
theorem dX10_worth_39 : decode cX10_worth 39 = .ok (.getfield 34, 3) := by decide +kernel
theorem dX10_worth_42 : decode cX10_worth 42 = .ok (.aload_n 0, 1) := by decide +kernel
theorem dX10_worth_43 : decode cX10_worth 43 = .ok (.getfield 10, 3) := by decide +kernel
theorem dX10_worth_46 : decode cX10_worth 46 = .ok (.iload_n 1, 1) := by decide +kernel
theorem dX10_worth_47 : decode cX10_worth 47 = .ok (.iconst 1, 1) := by decide +kernel
theorem dX10_worth_48 : decode cX10_worth 48 = .ok (.iload_n 2, 1) := by decide +kernel
theorem dX10_worth_49 : decode cX10_worth 49 = .ok (.ishl, 1) := by decide +kernel
theorem dX10_worth_50 : decode cX10_worth 50 = .ok (.invokevirtual 136, 3) := by decide +kernel
theorem dX10_worth_53 : decode cX10_worth 53 = .ok (.aload_n 0, 1) := by decide +kernel
theorem dX10_worth_54 : decode cX10_worth 54 = .ok (.getfield 34, 3) := by decide +kernel
theorem dX10_worth_57 : decode cX10_worth 57 = .ok (.getfield 140, 3) := by decide +kernel
theorem dX10_worth_60 : decode cX10_worth 60 = .ok (.iconst (-1), 1) := by decide +kernel
theorem dX10_worth_61 : decode cX10_worth 61 = .ok (.if_icmp .ne 7, 3) := by decide +kernel
theorem dX10_worth_64 : decode cX10_worth 64 = .ok (.iconst 1, 1) := by decide +kernel
theorem dX10_worth_65 : decode cX10_worth 65 = .ok (.goto 4, 3) := by decide +kernel
theorem dX10_worth_68 : decode cX10_worth 68 = .ok (.iconst 0, 1) := by decide +kernel
theorem dX10_worth_69 : decode cX10_worth 69 = .ok (.istore_n 3, 1) := by decide +kernel
theorem dX10_worth_70 : decode cX10_worth 70 = .ok (.aload_n 0, 1) := by decide +kernel
theorem dX10_worth_71 : decode cX10_worth 71 = .ok (.getfield 34, 3) := by decide +kernel
theorem dX10_worth_74 : decode cX10_worth 74 = .ok (.getfield 142, 3) := by decide +kernel
theorem dX10_worth_77 : decode cX10_worth 77 = .ok (.istore 4, 2) := by decide +kernel
theorem dX10_worth_79 : decode cX10_worth 79 = .ok (.aload_n 0, 1) := by decide +kernel
theorem dX10_worth_80 : decode cX10_worth 80 = .ok (.getfield 34, 3) := by decide +kernel
theorem dX10_worth_83 : decode cX10_worth 83 = .ok (.aload_n 0, 1) := by decide +kernel
theorem dX10_worth_84 : decode cX10_worth 84 = .ok (.getfield 10, 3) := by decide +kernel
theorem dX10_worth_87 : decode cX10_worth 87 = .ok (.iload_n 1, 1) := by decide +kernel
theorem dX10_worth_88 : decode cX10_worth 88 = .ok (.iconst 0, 1) := by decide +kernel
theorem dX10_worth_89 : decode cX10_worth 89 = .ok (.invokevirtual 136, 3) := by decide +kernel
theorem dX10_worth_92 : decode cX10_worth 92 = .ok (.iload_n 3, 1) := by decide +kernel
theorem dX10_worth_93 : decode cX10_worth 93 = .ok (.ifCond .ne 14, 3) := by decide +kernel
theorem dX10_worth_96 : decode cX10_worth 96 = .ok (.aload_n 0, 1) := by decide +kernel
theorem dX10_worth_97 : decode cX10_worth 97 = .ok (.getfield 34, 3) := by decide +kernel
theorem dX10_worth_100 : decode cX10_worth 100 = .ok (.getfield 140, 3) := by decide +kernel
theorem dX10_worth_103 : decode cX10_worth 103 = .ok (.iconst (-1), 1) := by decide +kernel
theorem dX10_worth_104 : decode cX10_worth 104 = .ok (.if_icmp .ne 17, 3) := by decide +kernel
theorem dX10_worth_107 : decode cX10_worth 107 = .ok (.aload_n 0, 1) := by decide +kernel
theorem dX10_worth_108 : decode cX10_worth 108 = .ok (.dup, 1) := by decide +kernel
theorem dX10_worth_109 : decode cX10_worth 109 = .ok (.getfield 154, 3) := by decide +kernel
theorem dX10_worth_112 : decode cX10_worth 112 = .ok (.iconst 1, 1) := by decide +kernel
theorem dX10_worth_113 : decode cX10_worth 113 = .ok (.iadd, 1) := by decide +kernel
theorem dX10_worth_114 : decode cX10_worth 114 = .ok (.putfield 154, 3) := by decide +kernel
theorem dX10_worth_117 : decode cX10_worth 117 = .ok (.sipush (-2000), 3) := by decide +kernel
theorem dX10_worth_120 : decode cX10_worth 120 = .ok (.ireturn, 1) := by decide +kernel
theorem dX10_worth_121 : decode cX10_worth 121 = .ok (.iload 4, 2) := by decide +kernel
theorem dX10_worth_123 : decode cX10_worth 123 = .ok (.aload_n 0, 1) := by decide +kernel
theorem dX10_worth_124 : decode cX10_worth 124 = .ok (.getfield 34, 3) := by decide +kernel
theorem dX10_worth_127 : decode cX10_worth 127 = .ok (.getfield 142, 3) := by decide +kernel
theorem dX10_worth_130 : decode cX10_worth 130 = .ok (.isub, 1) := by decide +kernel
theorem dX10_worth_131 : decode cX10_worth 131 = .ok (.ireturn, 1) := by decide +kernel
set_option maxRecDepth 20000 in
theorem ggX10_turns_X1_hasSet : GoodIn wsX10_turns wsX1_hasSet := goodIn_r _ [6, 7, 144, 145, 146, 147, 148, 149, 150, 151, 152, 153] (by decide +kernel) (by decide +kernel)
set_option maxRecDepth 20000 in
theorem gX10_turns_X1_hasSet : GoodIn wsX10_turns (wsV RX10 99 RX1 yX1_hasSet wsX1_hasSet) := goodIn_app (goodIn_of _ (by decide +kernel)) ggX10_turns_X1_hasSet
set_option maxRecDepth 20000 in
theorem ggX10_turns_X10_bad : GoodIn wsX10_turns wsX10_bad := goodIn_r _ [12, 13, 135, 136, 137, 138, 139, 140, 141, 142, 143] (by decide +kernel) (by decide +kernel)
set_option maxRecDepth 20000 in
theorem gX10_turns_X10_bad : GoodIn wsX10_turns (wsV RX10 49 RX10 yX10_bad wsX10_bad) := goodIn_app (goodIn_of _ (by decide +kernel)) ggX10_turns_X10_bad
set_option maxRecDepth 20000 in
theorem ggX10_turns_X1_turnsUntilOver : GoodIn wsX10_turns wsX1_turnsUntilOver := goodIn_r _ [17, 18, 19, 20, 5, 21, 22, 23, 24, 25, 26, 27, 28, 29, 30, 31, 32, 7, 33, 34, 11, 35, 36, 37, 38, 39, 40, 41, 42, 43, 44, 45, 46, 47, 48, 49, 50, 51, 52, 53, 54, 55, 56, 57, 58, 59, 60, 61, 62, 63, 64, 65, 66, 67, 68, 69, 70, 71, 72, 73, 74, 75, 76, 77, 78, 79, 80, 81, 82, 83, 84, 85, 86, 87, 88, 89, 90, 91, 92, 93, 94, 95, 96, 97, 98, 99, 100, 101, 102, 103, 104, 105, 106, 107, 108, 109, 110, 111, 112, 113, 114, 115, 116, 117, 118, 119, 120, 121, 122, 123, 124, 125, 126, 127, 128, 129, 130, 131, 132, 133, 134, 144, 145, 146, 147, 148, 149, 150, 151, 152, 153, 154, 155, 156, 157, 158, 159, 160, 161, 162, 163, 164, 165, 166, 167, 168, 169, 170, 171, 172, 173, 174, 175, 176, 177] (by decide +kernel) (by decide +kernel)
set_option maxRecDepth 20000 in
theorem gX10_turns_X1_turnsUntilOver : GoodIn wsX10_turns (wsV RX10 157 RX1 yX1_turnsUntilOver wsX1_turnsUntilOver) := goodIn_app (goodIn_of _ (by decide +kernel)) ggX10_turns_X1_turnsUntilOver
theorem dX10_turns_0 : decode cX10_turns 0 = .ok (.aload_n 0, 1) := by decide +kernel
theorem dX10_turns_1 : decode cX10_turns 1 = .ok (.getfield 10, 3) := by decide +kernel
theorem dX10_turns_4 : decode cX10_turns 4 = .ok (.iload_n 1, 1) := by decide +kernel
theorem dX10_turns_5 : decode cX10_turns 5 = .ok (.invokevirtual 99, 3) := by decide +kernel
theorem dX10_turns_8 : decode cX10_turns 8 = .ok (.ifCond .eq 20, 3) := by decide +kernel
theorem dX10_turns_11 : decode cX10_turns 11 = .ok (.aload_n 0, 1) := by decide +kernel
theorem dX10_turns_12 : decode cX10_turns 12 = .ok (.getfield 10, 3) := by decide +kernel
theorem dX10_turns_15 : decode cX10_turns 15 = .ok (.iload_n 2, 1) := by decide +kernel
theorem dX10_turns_16 : decode cX10_turns 16 = .ok (.invokevirtual 99, 3) := by decide +kernel
theorem dX10_turns_19 : decode cX10_turns 19 = .ok (.ifCond .eq 9, 3) := by decide +kernel
theorem dX10_turns_22 : decode cX10_turns 22 = .ok (.iload_n 1, 1) := by decide +kernel
theorem dX10_turns_23 : decode cX10_turns 23 = .ok (.iload_n 2, 1) := by decide +kernel
theorem dX10_turns_24 : decode cX10_turns 24 = .ok (.iand, 1) := by decide +kernel
theorem dX10_turns_25 : decode cX10_turns 25 = .ok (.ifCond .eq 10, 3) := by decide +kernel
theorem dX10_turns_28 : decode cX10_turns 28 = .ok (.aload_n 0, 1) := by decide +kernel
theorem dX10_turns_29 : decode cX10_turns 29 = .ok (.bipush (-2), 2) := by decide +kernel
theorem dX10_turns_31 : decode cX10_turns 31 = .ok (.invokevirtual 49, 3) := by decide +kernel
theorem dX10_turns_34 : decode cX10_turns 34 = .ok (.ireturn, 1) := by decide +kernel
theorem dX10_turns_35 : decode cX10_turns 35 = .ok (.aload_n 0, 1) := by decide +kernel
theorem dX10_turns_36 : decode cX10_turns 36 = .ok (.getfield 10, 3) := by decide +kernel
theorem dX10_turns_39 : decode cX10_turns 39 = .ok (.iload_n 1, 1) := by decide +kernel
theorem dX10_turns_40 : decode cX10_turns 40 = .ok (.invokevirtual 157, 3) := by decide +kernel
theorem dX10_turns_43 : decode cX10_turns 43 = .ok (.istore_n 3, 1) := by decide +kernel
theorem dX10_turns_44 : decode cX10_turns 44 = .ok (.aload_n 0, 1) := by decide +kernel
theorem dX10_turns_45 : decode cX10_turns 45 = .ok (.getfield 10, 3) := by decide +kernel
theorem dX10_turns_48 : decode cX10_turns 48 = .ok (.iload_n 2, 1) := by decide +kernel
theorem dX10_turns_49 : decode cX10_turns 49 = .ok (.invokevirtual 157, 3) := by decide +kernel
theorem dX10_turns_52 : decode cX10_turns 52 = .ok (.istore 4, 2) := by decide +kernel
theorem dX10_turns_54 : decode cX10_turns 54 = .ok (.iload_n 3, 1) := by decide +kernel
theorem dX10_turns_55 : decode cX10_turns 55 = .ok (.iconst (-1), 1) := by decide +kernel
theorem dX10_turns_56 : decode cX10_turns 56 = .ok (.if_icmp .ne 11, 3) := by decide +kernel
theorem dX10_turns_59 : decode cX10_turns 59 = .ok (.iload 4, 2) := by decide +kernel
theorem dX10_turns_61 : decode cX10_turns 61 = .ok (.iconst (-1), 1) := by decide +kernel
theorem dX10_turns_62 : decode cX10_turns 62 = .ok (.if_icmp .ne 5, 3) := by decide +kernel
theorem dX10_turns_65 : decode cX10_turns 65 = .ok (.iconst 0, 1) := by decide +kernel
theorem dX10_turns_66 : decode cX10_turns 66 = .ok (.ireturn, 1) := by decide +kernel
theorem dX10_turns_67 : decode cX10_turns 67 = .ok (.iload 4, 2) := by decide +kernel
theorem dX10_turns_69 : decode cX10_turns 69 = .ok (.iconst (-1), 1) := by decide +kernel
theorem dX10_turns_70 : decode cX10_turns 70 = .ok (.if_icmp .ne 5, 3) := by decide +kernel
theorem dX10_turns_73 : decode cX10_turns 73 = .ok (.iconst 1, 1) := by decide +kernel
theorem dX10_turns_74 : decode cX10_turns 74 = .ok (.ireturn, 1) := by decide +kernel
theorem dX10_turns_75 : decode cX10_turns 75 = .ok (.iload_n 3, 1) := by decide +kernel
theorem dX10_turns_76 : decode cX10_turns 76 = .ok (.iconst (-1), 1) := by decide +kernel
theorem dX10_turns_77 : decode cX10_turns 77 = .ok (.if_icmp .eq 13, 3) := by decide +kernel
theorem dX10_turns_80 : decode cX10_turns 80 = .ok (.iload_n 3, 1) := by decide +kernel
theorem dX10_turns_81 : decode cX10_turns 81 = .ok (.iload 4, 2) := by decide +kernel
theorem dX10_turns_83 : decode cX10_turns 83 = .ok (.if_icmp .gt 7, 3) := by decide +kernel
theorem dX10_turns_86 : decode cX10_turns 86 = .ok (.iconst 1, 1) := by decide +kernel
theorem dX10_turns_87 : decode cX10_turns 87 = .ok (.goto 4, 3) := by decide +kernel
theorem dX10_turns_90 : decode cX10_turns 90 = .ok (.iconst 2, 1) := by decide +kernel
theorem dX10_turns_91 : decode cX10_turns 91 = .ok (.ireturn, 1) := by decide +kernel
set_option maxRecDepth 20000 in
theorem ggX10_load_X10_bad : GoodIn wsX10_load wsX10_bad := goodIn_r _ [7, 8, 29, 30, 31, 32, 33, 34, 35, 36, 37] (by decide +kernel) (by decide +kernel)
set_option maxRecDepth 20000 in
theorem gX10_load_X10_bad : GoodIn wsX10_load (wsV RX10 49 RX10 yX10_bad wsX10_bad) := goodIn_app (goodIn_of _ (by decide +kernel)) ggX10_load_X10_bad
set_option maxRecDepth 20000 in
theorem ggX10_load_X10_full : GoodIn wsX10_load wsX10_full := goodIn_r _ [12, 13, 29, 30, 31, 32, 33, 34, 35, 36, 37] (by decide +kernel) (by decide +kernel)
set_option maxRecDepth 20000 in
theorem gX10_load_X10_full : GoodIn wsX10_load (wsV RX10 57 RX10 yX10_full wsX10_full) := goodIn_app (goodIn_of _ (by decide +kernel)) ggX10_load_X10_full
set_option maxRecDepth 20000 in
theorem ggX10_load_X10_changed : GoodIn wsX10_load wsX10_changed := goodIn_r _ [17, 18, 19, 20, 21, 29, 30, 31, 32, 33, 34, 35, 36, 37, 48, 49, 50, 51, 52, 53, 54, 55, 56, 57, 58, 59, 60, 61, 62, 63, 64, 65, 66, 67, 68] (by decide +kernel) (by decide +kernel)
set_option maxRecDepth 20000 in
theorem gX10_load_X10_changed : GoodIn wsX10_load (wsV RX10 61 RX10 yX10_changed wsX10_changed) := goodIn_app (goodIn_of _ (by decide +kernel)) ggX10_load_X10_changed
set_option maxRecDepth 20000 in
theorem ggX10_load_X1_addLoad : GoodIn wsX10_load wsX1_addLoad := goodIn_r _ [26, 27, 28, 38, 39, 40, 41, 42, 43, 44, 45, 46, 47] (by decide +kernel) (by decide +kernel)
set_option maxRecDepth 20000 in
theorem gX10_load_X1_addLoad : GoodIn wsX10_load (wsV RX10 163 RX1 yX1_addLoad wsX1_addLoad) := goodIn_app (goodIn_of _ (by decide +kernel)) ggX10_load_X1_addLoad
theorem dX10_load_0 : decode cX10_load 0 = .ok (.iload_n 1, 1) := by decide +kernel
theorem dX10_load_1 : decode cX10_load 1 = .ok (.iconst 1, 1) := by decide +kernel
theorem dX10_load_2 : decode cX10_load 2 = .ok (.if_icmp .lt 9, 3) := by decide +kernel
theorem dX10_load_5 : decode cX10_load 5 = .ok (.iload_n 1, 1) := by decide +kernel
theorem dX10_load_6 : decode cX10_load 6 = .ok (.bipush 20, 2) := by decide +kernel
theorem dX10_load_8 : decode cX10_load 8 = .ok (.if_icmp .le 10, 3) := by decide +kernel
theorem dX10_load_11 : decode cX10_load 11 = .ok (.aload_n 0, 1) := by decide +kernel
theorem dX10_load_12 : decode cX10_load 12 = .ok (.bipush (-2), 2) := by decide +kernel
theorem dX10_load_14 : decode cX10_load 14 = .ok (.invokevirtual 49, 3) := by decide +kernel
theorem dX10_load_17 : decode cX10_load 17 = .ok (.ireturn, 1) := by decide +kernel
theorem dX10_load_18 : decode cX10_load 18 = .ok (.aload_n 0, 1) := by decide +kernel
theorem dX10_load_19 : decode cX10_load 19 = .ok (.getfield 10, 3) := by decide +kernel
theorem dX10_load_22 : decode cX10_load 22 = .ok (.getfield 160, 3) := by decide +kernel
theorem dX10_load_25 : decode cX10_load 25 = .ok (.iconst 5, 1) := by decide +kernel
theorem dX10_load_26 : decode cX10_load 26 = .ok (.if_icmp .lt 8, 3) := by decide +kernel
theorem dX10_load_29 : decode cX10_load 29 = .ok (.aload_n 0, 1) := by decide +kernel
theorem dX10_load_30 : decode cX10_load 30 = .ok (.invokevirtual 57, 3) := by decide +kernel
theorem dX10_load_33 : decode cX10_load 33 = .ok (.ireturn, 1) := by decide +kernel
theorem dX10_load_34 : decode cX10_load 34 = .ok (.aload_n 0, 1) := by decide +kernel
theorem dX10_load_35 : decode cX10_load 35 = .ok (.invokevirtual 61, 3) := by decide +kernel
theorem dX10_load_38 : decode cX10_load 38 = .ok (.aload_n 0, 1) := by decide +kernel
theorem dX10_load_39 : decode cX10_load 39 = .ok (.getfield 10, 3) := by decide +kernel
theorem dX10_load_42 : decode cX10_load 42 = .ok (.iload_n 1, 1) := by decide +kernel
theorem dX10_load_43 : decode cX10_load 43 = .ok (.invokevirtual 163, 3) := by decide +kernel
theorem dX10_load_46 : decode cX10_load 46 = .ok (.aload_n 0, 1) := by decide +kernel
theorem dX10_load_47 : decode cX10_load 47 = .ok (.getfield 10, 3) := by decide +kernel
theorem dX10_load_50 : decode cX10_load 50 = .ok (.getfield 160, 3) := by decide +kernel
theorem dX10_load_53 : decode cX10_load 53 = .ok (.iconst 1, 1) := by decide +kernel
theorem dX10_load_54 : decode cX10_load 54 = .ok (.isub, 1) := by decide +kernel
theorem dX10_load_55 : decode cX10_load 55 = .ok (.ireturn, 1) := by decide +kernel
set_option maxRecDepth 20000 in
theorem ggX10_unload_X10_changed : GoodIn wsX10_unload wsX10_changed := goodIn_r _ [7, 8, 9, 10, 11, 12, 13, 14, 15, 16, 17, 18, 19, 20, 31, 32, 33, 34, 35, 36, 37, 38, 39, 40, 41, 42, 43, 44, 45, 46, 47, 48, 49, 50, 51] (by decide +kernel) (by decide +kernel)
set_option maxRecDepth 20000 in
theorem gX10_unload_X10_changed : GoodIn wsX10_unload (wsV RX10 61 RX10 yX10_changed wsX10_changed) := goodIn_app (goodIn_of _ (by decide +kernel)) ggX10_unload_X10_changed
theorem dX10_unload_0 : decode cX10_unload 0 = .ok (.aload_n 0, 1) := by decide +kernel
theorem dX10_unload_1 : decode cX10_unload 1 = .ok (.getfield 10, 3) := by decide +kernel
theorem dX10_unload_4 : decode cX10_unload 4 = .ok (.getfield 160, 3) := by decide +kernel
theorem dX10_unload_7 : decode cX10_unload 7 = .ok (.istore_n 1, 1) := by decide +kernel
theorem dX10_unload_8 : decode cX10_unload 8 = .ok (.aload_n 0, 1) := by decide +kernel
theorem dX10_unload_9 : decode cX10_unload 9 = .ok (.invokevirtual 61, 3) := by decide +kernel
theorem dX10_unload_12 : decode cX10_unload 12 = .ok (.aload_n 0, 1) := by decide +kernel
theorem dX10_unload_13 : decode cX10_unload 13 = .ok (.getfield 10, 3) := by decide +kernel
theorem dX10_unload_16 : decode cX10_unload 16 = .ok (.iconst 0, 1) := by decide +kernel
theorem dX10_unload_17 : decode cX10_unload 17 = .ok (.putfield 160, 3) := by decide +kernel
theorem dX10_unload_20 : decode cX10_unload 20 = .ok (.iload_n 1, 1) := by decide +kernel
theorem dX10_unload_21 : decode cX10_unload 21 = .ok (.ireturn, 1) := by decide +kernel
set_option maxRecDepth 20000 in
theorem ggX10_carries_X10_bad : GoodIn wsX10_carries wsX10_bad := goodIn_r _ [10, 11, 124, 125, 126, 127, 128, 129, 130, 131, 132] (by decide +kernel) (by decide +kernel)
set_option maxRecDepth 20000 in
theorem gX10_carries_X10_bad : GoodIn wsX10_carries (wsV RX10 49 RX10 yX10_bad wsX10_bad) := goodIn_app (goodIn_of _ (by decide +kernel)) ggX10_carries_X10_bad
set_option maxRecDepth 20000 in
theorem ggX10_carries_X5_share : GoodIn wsX10_carries wsX5_share := goodIn_r _ [16, 17, 18, 19, 20, 21, 22, 23, 24, 25, 26, 27, 28, 29, 30, 31, 32, 33, 34, 35, 36, 37, 38, 39, 40, 41, 42, 43, 44, 45, 46, 47, 48, 49, 15, 50, 51, 52, 53, 54, 55, 56, 57, 58, 59, 60, 9, 61, 62, 63, 64, 65, 66, 67, 68, 69, 70, 71, 72, 73, 74, 75, 76, 77, 78, 79, 80, 81, 82, 83, 84, 85, 86, 87, 88, 89, 90, 91, 92, 93, 94, 95, 96, 97, 98, 99, 100, 101, 102, 103, 104, 105, 106, 107, 108, 109, 110, 111, 112, 113, 114, 115, 116, 117, 118, 119, 120, 121, 122, 123, 143, 144, 145, 146, 147, 148, 149, 150, 151, 133, 134, 135, 136, 137, 138, 139, 140, 141, 142, 152, 153, 154, 155, 156, 157, 158, 159, 160, 161, 162, 163, 164, 165, 166, 167, 168, 169, 170, 171, 172, 173, 174, 175] (by decide +kernel) (by decide +kernel)
set_option maxRecDepth 20000 in
theorem gX10_carries_X5_share : GoodIn wsX10_carries (wsV RX10 166 RX5 yX5_share wsX5_share) := goodIn_app (goodIn_of _ (by decide +kernel)) ggX10_carries_X5_share
theorem dX10_carries_0 : decode cX10_carries 0 = .ok (.iload_n 1, 1) := by decide +kernel
theorem dX10_carries_1 : decode cX10_carries 1 = .ok (.iconst (-1), 1) := by decide +kernel
theorem dX10_carries_2 : decode cX10_carries 2 = .ok (.if_icmp .lt 19, 3) := by decide +kernel
theorem dX10_carries_5 : decode cX10_carries 5 = .ok (.iload_n 1, 1) := by decide +kernel
theorem dX10_carries_6 : decode cX10_carries 6 = .ok (.aload_n 0, 1) := by decide +kernel
theorem dX10_carries_7 : decode cX10_carries 7 = .ok (.getfield 10, 3) := by decide +kernel
theorem dX10_carries_10 : decode cX10_carries 10 = .ok (.getfield 160, 3) := by decide +kernel
theorem dX10_carries_13 : decode cX10_carries 13 = .ok (.if_icmp .ge 8, 3) := by decide +kernel
theorem dX10_carries_16 : decode cX10_carries 16 = .ok (.iload_n 1, 1) := by decide +kernel
theorem dX10_carries_17 : decode cX10_carries 17 = .ok (.iconst 5, 1) := by decide +kernel
theorem dX10_carries_18 : decode cX10_carries 18 = .ok (.if_icmp .lt 10, 3) := by decide +kernel
theorem dX10_carries_21 : decode cX10_carries 21 = .ok (.aload_n 0, 1) := by decide +kernel
theorem dX10_carries_22 : decode cX10_carries 22 = .ok (.bipush (-10), 2) := by decide +kernel
theorem dX10_carries_24 : decode cX10_carries 24 = .ok (.invokevirtual 49, 3) := by decide +kernel
theorem dX10_carries_27 : decode cX10_carries 27 = .ok (.ireturn, 1) := by decide +kernel
theorem dX10_carries_28 : decode cX10_carries 28 = .ok (.aload_n 0, 1) := by decide +kernel
theorem dX10_carries_29 : decode cX10_carries 29 = .ok (.getfield 41, 3) := by decide +kernel
theorem dX10_carries_32 : decode cX10_carries 32 = .ok (.aload_n 0, 1) := by decide +kernel
theorem dX10_carries_33 : decode cX10_carries 33 = .ok (.getfield 10, 3) := by decide +kernel
theorem dX10_carries_36 : decode cX10_carries 36 = .ok (.invokevirtual 166, 3) := by decide +kernel
theorem dX10_carries_39 : decode cX10_carries 39 = .ok (.iload_n 1, 1) := by decide +kernel
theorem dX10_carries_40 : decode cX10_carries 40 = .ok (.iconst (-1), 1) := by decide +kernel
theorem dX10_carries_41 : decode cX10_carries 41 = .ok (.if_icmp .ne 13, 3) := by decide +kernel
theorem dX10_carries_44 : decode cX10_carries 44 = .ok (.aload_n 0, 1) := by decide +kernel
theorem dX10_carries_45 : decode cX10_carries 45 = .ok (.getfield 41, 3) := by decide +kernel
theorem dX10_carries_48 : decode cX10_carries 48 = .ok (.getfield 169, 3) := by decide +kernel
theorem dX10_carries_51 : decode cX10_carries 51 = .ok (.goto 12, 3) := by decide +kernel
theorem dX10_carries_54 : decode cX10_carries 54 = .ok (.aload_n 0, 1) := by decide +kernel
theorem dX10_carries_55 : decode cX10_carries 55 = .ok (.getfield 41, 3) := by decide +kernel
theorem dX10_carries_58 : decode cX10_carries 58 = .ok (.getfield 172, 3) := by decide +kernel
theorem dX10_carries_61 : decode cX10_carries 61 = .ok (.iload_n 1, 1) := by decide +kernel
theorem dX10_carries_62 : decode cX10_carries 62 = .ok (.iaload, 1) := by decide +kernel
theorem dX10_carries_63 : decode cX10_carries 63 = .ok (.ireturn, 1) := by decide +kernel
set_option maxRecDepth 20000 in
theorem ggX10_fell_X1_hasSet : GoodIn wsX10_fell wsX1_hasSet := goodIn_r _ [7, 8, 142, 143, 144, 145, 146, 147, 148, 149, 150, 151] (by decide +kernel) (by decide +kernel)
set_option maxRecDepth 20000 in
theorem gX10_fell_X1_hasSet : GoodIn wsX10_fell (wsV RX10 99 RX1 yX1_hasSet wsX1_hasSet) := goodIn_app (goodIn_of _ (by decide +kernel)) ggX10_fell_X1_hasSet
set_option maxRecDepth 20000 in
theorem ggX10_fell_X10_isMinute : GoodIn wsX10_fell wsX10_isMinute := goodIn_r _ [12] (by decide +kernel) (by decide +kernel)
set_option maxRecDepth 20000 in
theorem gX10_fell_X10_isMinute : GoodIn wsX10_fell (va_wsS RX10 83 yX10_isMinute wsX10_isMinute) := goodIn_app (goodIn_of _ (by decide +kernel)) ggX10_fell_X10_isMinute
set_option maxRecDepth 20000 in
theorem ggX10_fell_X10_bad : GoodIn wsX10_fell wsX10_bad := goodIn_r _ [16, 17, 133, 134, 135, 136, 137, 138, 139, 140, 141] (by decide +kernel) (by decide +kernel)
set_option maxRecDepth 20000 in
theorem gX10_fell_X10_bad : GoodIn wsX10_fell (wsV RX10 49 RX10 yX10_bad wsX10_bad) := goodIn_app (goodIn_of _ (by decide +kernel)) ggX10_fell_X10_bad
set_option maxRecDepth 20000 in
theorem ggX10_fell_X10_isOnOneSide : GoodIn wsX10_fell wsX10_isOnOneSide := goodIn_r _ [20] (by decide +kernel) (by decide +kernel)
set_option maxRecDepth 20000 in
theorem gX10_fell_X10_isOnOneSide : GoodIn wsX10_fell (va_wsS RX10 175 yX10_isOnOneSide wsX10_isOnOneSide) := goodIn_app (goodIn_of _ (by decide +kernel)) ggX10_fell_X10_isOnOneSide
set_option maxRecDepth 20000 in
theorem ggX10_fell_X1_whyNot : GoodIn wsX10_fell wsX1_whyNot := goodIn_r _ [24, 25, 26, 27, 28, 29, 30, 31, 32, 33, 34, 6, 35, 8, 36, 37, 11, 38, 39, 40, 41, 42, 43, 44, 45, 46, 47, 48, 49, 50, 51, 52, 53, 54, 55, 56, 57, 58, 59, 60, 61, 62, 63, 64, 65, 66, 67, 68, 69, 70, 71, 72, 73, 74, 75, 76, 77, 78, 79, 80, 81, 82, 83, 84, 85, 86, 87, 88, 89, 90, 91, 92, 93, 94, 95, 96, 97, 98, 99, 100, 101, 102, 103, 104, 105, 106, 107, 108, 109, 110, 111, 112, 113, 114, 115, 116, 117, 118, 119, 120, 121, 122, 123, 124, 125, 126, 127, 128, 129, 130, 131, 132, 142, 143, 144, 145, 146, 147, 148, 149, 150, 151, 152, 153, 154, 155, 156, 157, 158, 159, 160, 161, 162, 163, 164, 165, 166, 167, 168, 169, 170, 171, 172, 173, 174, 175] (by decide +kernel) (by decide +kernel)
set_option maxRecDepth 20000 in
theorem gX10_fell_X1_whyNot : GoodIn wsX10_fell (wsV RX10 105 RX1 yX1_whyNot wsX1_whyNot) := goodIn_app (goodIn_of _ (by decide +kernel)) ggX10_fell_X1_whyNot
theorem dX10_fell_0 : decode cX10_fell 0 = .ok (.aload_n 0, 1) := by decide +kernel
theorem dX10_fell_1 : decode cX10_fell 1 = .ok (.getfield 10, 3) := by decide +kernel
theorem dX10_fell_4 : decode cX10_fell 4 = .ok (.iload_n 1, 1) := by decide +kernel
theorem dX10_fell_5 : decode cX10_fell 5 = .ok (.invokevirtual 99, 3) := by decide +kernel
theorem dX10_fell_8 : decode cX10_fell 8 = .ok (.ifCond .eq 15, 3) := by decide +kernel
theorem dX10_fell_11 : decode cX10_fell 11 = .ok (.iload_n 2, 1) := by decide +kernel
theorem dX10_fell_12 : decode cX10_fell 12 = .ok (.invokestatic 83, 3) := by decide +kernel
theorem dX10_fell_15 : decode cX10_fell 15 = .ok (.ifCond .eq 8, 3) := by decide +kernel
theorem dX10_fell_18 : decode cX10_fell 18 = .ok (.iload_n 3, 1) := by decide +kernel
theorem dX10_fell_19 : decode cX10_fell 19 = .ok (.iconst (-1), 1) := by decide +kernel
theorem dX10_fell_20 : decode cX10_fell 20 = .ok (.if_icmp .ge 10, 3) := by decide +kernel
theorem dX10_fell_23 : decode cX10_fell 23 = .ok (.aload_n 0, 1) := by decide +kernel
theorem dX10_fell_24 : decode cX10_fell 24 = .ok (.bipush (-10), 2) := by decide +kernel
theorem dX10_fell_26 : decode cX10_fell 26 = .ok (.invokevirtual 49, 3) := by decide +kernel
theorem dX10_fell_29 : decode cX10_fell 29 = .ok (.ireturn, 1) := by decide +kernel
theorem dX10_fell_30 : decode cX10_fell 30 = .ok (.iconst 0, 1) := by decide +kernel
theorem dX10_fell_31 : decode cX10_fell 31 = .ok (.istore 4, 2) := by decide +kernel
theorem dX10_fell_33 : decode cX10_fell 33 = .ok (.iconst 0, 1) := by decide +kernel
theorem dX10_fell_34 : decode cX10_fell 34 = .ok (.istore 5, 2) := by decide +kernel
theorem dX10_fell_36 : decode cX10_fell 36 = .ok (.iload 5, 2) := by decide +kernel
theorem dX10_fell_38 : decode cX10_fell 38 = .ok (.aload_n 0, 1) := by decide +kernel
theorem dX10_fell_39 : decode cX10_fell 39 = .ok (.getfield 10, 3) := by decide +kernel
theorem dX10_fell_42 : decode cX10_fell 42 = .ok (.getfield 53, 3) := by decide +kernel
theorem dX10_fell_45 : decode cX10_fell 45 = .ok (.if_icmp .ge 86, 3) := by decide +kernel
theorem dX10_fell_48 : decode cX10_fell 48 = .ok (.iload 5, 2) := by decide +kernel
theorem dX10_fell_50 : decode cX10_fell 50 = .ok (.iconst 1, 1) := by decide +kernel
theorem dX10_fell_51 : decode cX10_fell 51 = .ok (.iadd, 1) := by decide +kernel
theorem dX10_fell_52 : decode cX10_fell 52 = .ok (.istore 6, 2) := by decide +kernel
theorem dX10_fell_54 : decode cX10_fell 54 = .ok (.iload 6, 2) := by decide +kernel
theorem dX10_fell_56 : decode cX10_fell 56 = .ok (.aload_n 0, 1) := by decide +kernel
theorem dX10_fell_57 : decode cX10_fell 57 = .ok (.getfield 10, 3) := by decide +kernel
theorem dX10_fell_60 : decode cX10_fell 60 = .ok (.getfield 53, 3) := by decide +kernel
theorem dX10_fell_63 : decode cX10_fell 63 = .ok (.if_icmp .ge 62, 3) := by decide +kernel
theorem dX10_fell_66 : decode cX10_fell 66 = .ok (.iconst 1, 1) := by decide +kernel
theorem dX10_fell_67 : decode cX10_fell 67 = .ok (.iload 5, 2) := by decide +kernel
theorem dX10_fell_69 : decode cX10_fell 69 = .ok (.ishl, 1) := by decide +kernel
theorem dX10_fell_70 : decode cX10_fell 70 = .ok (.iconst 1, 1) := by decide +kernel
theorem dX10_fell_71 : decode cX10_fell 71 = .ok (.iload 6, 2) := by decide +kernel
theorem dX10_fell_73 : decode cX10_fell 73 = .ok (.ishl, 1) := by decide +kernel
theorem dX10_fell_74 : decode cX10_fell 74 = .ok (.ior, 1) := by decide +kernel
theorem dX10_fell_75 : decode cX10_fell 75 = .ok (.istore 7, 2) := by decide +kernel
theorem dX10_fell_77 : decode cX10_fell 77 = .ok (.iload 7, 2) := by decide +kernel
theorem dX10_fell_79 : decode cX10_fell 79 = .ok (.iload_n 1, 1) := by decide +kernel
theorem dX10_fell_80 : decode cX10_fell 80 = .ok (.invokestatic 175, 3) := by decide +kernel
theorem dX10_fell_83 : decode cX10_fell 83 = .ok (.ifCond .eq 36, 3) := by decide +kernel
theorem dX10_fell_86 : decode cX10_fell 86 = .ok (.aload_n 0, 1) := by decide +kernel
theorem dX10_fell_87 : decode cX10_fell 87 = .ok (.getfield 10, 3) := by decide +kernel
theorem dX10_fell_90 : decode cX10_fell 90 = .ok (.iload 7, 2) := by decide +kernel
theorem dX10_fell_92 : decode cX10_fell 92 = .ok (.iload_n 2, 1) := by decide +kernel
theorem dX10_fell_93 : decode cX10_fell 93 = .ok (.iconst 0, 1) := by decide +kernel
theorem dX10_fell_94 : decode cX10_fell 94 = .ok (.invokevirtual 105, 3) := by decide +kernel
theorem dX10_fell_97 : decode cX10_fell 97 = .ok (.iconst 5, 1) := by decide +kernel
theorem dX10_fell_98 : decode cX10_fell 98 = .ok (.if_icmp .ne 21, 3) := by decide +kernel
theorem dX10_fell_101 : decode cX10_fell 101 = .ok (.iload 4, 2) := by decide +kernel
theorem dX10_fell_103 : decode cX10_fell 103 = .ok (.iload_n 3, 1) := by decide +kernel
theorem dX10_fell_104 : decode cX10_fell 104 = .ok (.if_icmp .ne 12, 3) := by decide +kernel
theorem dX10_fell_107 : decode cX10_fell 107 = .ok (.bipush 10, 2) := by decide +kernel
theorem dX10_fell_109 : decode cX10_fell 109 = .ok (.iload 5, 2) := by decide +kernel
theorem dX10_fell_111 : decode cX10_fell 111 = .ok (.imul, 1) := by decide +kernel
theorem dX10_fell_112 : decode cX10_fell 112 = .ok (.iload 6, 2) := by decide +kernel
theorem dX10_fell_114 : decode cX10_fell 114 = .ok (.iadd, 1) := by decide +kernel
theorem dX10_fell_115 : decode cX10_fell 115 = .ok (.ireturn, 1) := by decide +kernel
theorem dX10_fell_116 : decode cX10_fell 116 = .ok (.iinc 4 1, 3) := by decide +kernel
theorem dX10_fell_119 : decode cX10_fell 119 = .ok (.iinc 6 1, 3) := by decide +kernel
theorem dX10_fell_122 : decode cX10_fell 122 = .ok (.goto (-68), 3) := by decide +kernel
theorem dX10_fell_125 : decode cX10_fell 125 = .ok (.iinc 5 1, 3) := by decide +kernel
theorem dX10_fell_128 : decode cX10_fell 128 = .ok (.goto (-92), 3) := by decide +kernel
theorem dX10_fell_131 : decode cX10_fell 131 = .ok (.iload_n 3, 1) := by decide +kernel
theorem dX10_fell_132 : decode cX10_fell 132 = .ok (.iconst (-1), 1) := by decide +kernel
theorem dX10_fell_133 : decode cX10_fell 133 = .ok (.if_icmp .ne 8, 3) := by decide +kernel
theorem dX10_fell_136 : decode cX10_fell 136 = .ok (.iload 4, 2) := by decide +kernel
theorem dX10_fell_138 : decode cX10_fell 138 = .ok (.goto 5, 3) := by decide +kernel
theorem dX10_fell_141 : decode cX10_fell 141 = .ok (.bipush (-5), 2) := by decide +kernel
theorem dX10_fell_143 : decode cX10_fell 143 = .ok (.ireturn, 1) := by decide +kernel
set_option maxRecDepth 20000 in
theorem ggX10_ropes_X10_bad : GoodIn wsX10_ropes wsX10_bad := goodIn_r _ [7, 8, 44, 45, 46, 47, 48, 49, 50, 51, 52] (by decide +kernel) (by decide +kernel)
set_option maxRecDepth 20000 in
theorem gX10_ropes_X10_bad : GoodIn wsX10_ropes (wsV RX10 49 RX10 yX10_bad wsX10_bad) := goodIn_app (goodIn_of _ (by decide +kernel)) ggX10_ropes_X10_bad
set_option maxRecDepth 20000 in
theorem ggX10_ropes_X1_weightOfGo : GoodIn wsX10_ropes wsX1_weightOfGo := goodIn_r _ [13, 14, 15, 16, 17, 6, 18, 19, 20, 21, 12, 22, 23, 24, 25, 26, 27, 28, 29, 30, 31, 32, 33, 34, 35, 36, 37, 38, 39, 40, 41, 42, 43, 53, 54, 55, 56, 57, 58, 59, 60, 61, 62, 63, 64, 65, 66, 67, 68, 69, 70, 71, 72, 73, 74, 75, 76, 77, 78, 79, 80, 81, 82, 83, 84, 85, 86] (by decide +kernel) (by decide +kernel)
set_option maxRecDepth 20000 in
theorem gX10_ropes_X1_weightOfGo : GoodIn wsX10_ropes (wsV RX10 178 RX1 yX1_weightOfGo wsX1_weightOfGo) := goodIn_app (goodIn_of _ (by decide +kernel)) ggX10_ropes_X1_weightOfGo
theorem dX10_ropes_0 : decode cX10_ropes 0 = .ok (.iload_n 1, 1) := by decide +kernel
theorem dX10_ropes_1 : decode cX10_ropes 1 = .ok (.iconst 1, 1) := by decide +kernel
theorem dX10_ropes_2 : decode cX10_ropes 2 = .ok (.if_icmp .lt 10, 3) := by decide +kernel
theorem dX10_ropes_5 : decode cX10_ropes 5 = .ok (.iload_n 1, 1) := by decide +kernel
theorem dX10_ropes_6 : decode cX10_ropes 6 = .ok (.sipush 30000, 3) := by decide +kernel
theorem dX10_ropes_9 : decode cX10_ropes 9 = .ok (.if_icmp .le 10, 3) := by decide +kernel
theorem dX10_ropes_12 : decode cX10_ropes 12 = .ok (.aload_n 0, 1) := by decide +kernel
theorem dX10_ropes_13 : decode cX10_ropes 13 = .ok (.bipush (-2), 2) := by decide +kernel
theorem dX10_ropes_15 : decode cX10_ropes 15 = .ok (.invokevirtual 49, 3) := by decide +kernel
theorem dX10_ropes_18 : decode cX10_ropes 18 = .ok (.ireturn, 1) := by decide +kernel
theorem dX10_ropes_19 : decode cX10_ropes 19 = .ok (.iconst 0, 1) := by decide +kernel
theorem dX10_ropes_20 : decode cX10_ropes 20 = .ok (.istore_n 2, 1) := by decide +kernel
theorem dX10_ropes_21 : decode cX10_ropes 21 = .ok (.iconst 0, 1) := by decide +kernel
theorem dX10_ropes_22 : decode cX10_ropes 22 = .ok (.istore_n 3, 1) := by decide +kernel
theorem dX10_ropes_23 : decode cX10_ropes 23 = .ok (.iload_n 3, 1) := by decide +kernel
theorem dX10_ropes_24 : decode cX10_ropes 24 = .ok (.bipush 99, 2) := by decide +kernel
theorem dX10_ropes_26 : decode cX10_ropes 26 = .ok (.if_icmp .ge 55, 3) := by decide +kernel
theorem dX10_ropes_29 : decode cX10_ropes 29 = .ok (.iconst 0, 1) := by decide +kernel
theorem dX10_ropes_30 : decode cX10_ropes 30 = .ok (.istore 4, 2) := by decide +kernel
theorem dX10_ropes_32 : decode cX10_ropes 32 = .ok (.iload 4, 2) := by decide +kernel
theorem dX10_ropes_34 : decode cX10_ropes 34 = .ok (.aload_n 0, 1) := by decide +kernel
theorem dX10_ropes_35 : decode cX10_ropes 35 = .ok (.getfield 10, 3) := by decide +kernel
theorem dX10_ropes_38 : decode cX10_ropes 38 = .ok (.getfield 127, 3) := by decide +kernel
theorem dX10_ropes_41 : decode cX10_ropes 41 = .ok (.if_icmp .ge 34, 3) := by decide +kernel
theorem dX10_ropes_44 : decode cX10_ropes 44 = .ok (.iload_n 2, 1) := by decide +kernel
theorem dX10_ropes_45 : decode cX10_ropes 45 = .ok (.aload_n 0, 1) := by decide +kernel
theorem dX10_ropes_46 : decode cX10_ropes 46 = .ok (.getfield 10, 3) := by decide +kernel
theorem dX10_ropes_49 : decode cX10_ropes 49 = .ok (.iload 4, 2) := by decide +kernel
theorem dX10_ropes_51 : decode cX10_ropes 51 = .ok (.invokevirtual 178, 3) := by decide +kernel
theorem dX10_ropes_54 : decode cX10_ropes 54 = .ok (.iadd, 1) := by decide +kernel
theorem dX10_ropes_55 : decode cX10_ropes 55 = .ok (.istore_n 2, 1) := by decide +kernel
theorem dX10_ropes_56 : decode cX10_ropes 56 = .ok (.iload_n 2, 1) := by decide +kernel
theorem dX10_ropes_57 : decode cX10_ropes 57 = .ok (.iload_n 1, 1) := by decide +kernel
theorem dX10_ropes_58 : decode cX10_ropes 58 = .ok (.if_icmp .le 11, 3) := by decide +kernel
theorem dX10_ropes_61 : decode cX10_ropes 61 = .ok (.bipush 100, 2) := by decide +kernel
theorem dX10_ropes_63 : decode cX10_ropes 63 = .ok (.iload_n 3, 1) := by decide +kernel
theorem dX10_ropes_64 : decode cX10_ropes 64 = .ok (.imul, 1) := by decide +kernel
theorem dX10_ropes_65 : decode cX10_ropes 65 = .ok (.iload 4, 2) := by decide +kernel
theorem dX10_ropes_67 : decode cX10_ropes 67 = .ok (.iadd, 1) := by decide +kernel
theorem dX10_ropes_68 : decode cX10_ropes 68 = .ok (.ireturn, 1) := by decide +kernel
theorem dX10_ropes_69 : decode cX10_ropes 69 = .ok (.iinc 4 1, 3) := by decide +kernel
theorem dX10_ropes_72 : decode cX10_ropes 72 = .ok (.goto (-40), 3) := by decide +kernel
theorem dX10_ropes_75 : decode cX10_ropes 75 = .ok (.iinc 3 1, 3) := by decide +kernel
theorem dX10_ropes_78 : decode cX10_ropes 78 = .ok (.goto (-55), 3) := by decide +kernel
theorem dX10_ropes_81 : decode cX10_ropes 81 = .ok (.iconst (-1), 1) := by decide +kernel
theorem dX10_ropes_82 : decode cX10_ropes 82 = .ok (.ireturn, 1) := by decide +kernel
set_option maxRecDepth 20000 in
theorem ggX10_image_X10_bad : GoodIn wsX10_image wsX10_bad := goodIn_r _ [8, 9, 33, 34, 35, 36, 37, 38, 39, 40, 41] (by decide +kernel) (by decide +kernel)
set_option maxRecDepth 20000 in
theorem gX10_image_X10_bad : GoodIn wsX10_image (wsV RX10 49 RX10 yX10_bad wsX10_bad) := goodIn_app (goodIn_of _ (by decide +kernel)) ggX10_image_X10_bad
set_option maxRecDepth 20000 in
theorem ggX10_image_X1_copy : GoodIn wsX10_image wsX1_copy := goodIn_r _ [14, 15, 16, 17, 18, 19, 20, 21, 22, 23, 24, 25, 13, 26, 27, 28, 29, 30, 31, 32, 42, 43, 44, 45, 46, 47, 48, 49, 50, 51] (by decide +kernel) (by decide +kernel)
set_option maxRecDepth 20000 in
theorem gX10_image_X1_copy : GoodIn wsX10_image (wsV RX10 181 RX1 yX1_copy wsX1_copy) := goodIn_app (goodIn_of _ (by decide +kernel)) ggX10_image_X1_copy
theorem dX10_image_0 : decode cX10_image 0 = .ok (.iload_n 1, 1) := by decide +kernel
theorem dX10_image_1 : decode cX10_image 1 = .ok (.ifCond .lt 8, 3) := by decide +kernel
theorem dX10_image_4 : decode cX10_image 4 = .ok (.iload_n 1, 1) := by decide +kernel
theorem dX10_image_5 : decode cX10_image 5 = .ok (.iconst 2, 1) := by decide +kernel
theorem dX10_image_6 : decode cX10_image 6 = .ok (.if_icmp .lt 10, 3) := by decide +kernel
theorem dX10_image_9 : decode cX10_image 9 = .ok (.aload_n 0, 1) := by decide +kernel
theorem dX10_image_10 : decode cX10_image 10 = .ok (.bipush (-2), 2) := by decide +kernel
theorem dX10_image_12 : decode cX10_image 12 = .ok (.invokevirtual 49, 3) := by decide +kernel
theorem dX10_image_15 : decode cX10_image 15 = .ok (.ireturn, 1) := by decide +kernel
theorem dX10_image_16 : decode cX10_image 16 = .ok (.aload_n 0, 1) := by decide +kernel
theorem dX10_image_17 : decode cX10_image 17 = .ok (.getfield 16, 3) := by decide +kernel
theorem dX10_image_20 : decode cX10_image 20 = .ok (.iload_n 1, 1) := by decide +kernel
theorem dX10_image_21 : decode cX10_image 21 = .ok (.aaload, 1) := by decide +kernel
theorem dX10_image_22 : decode cX10_image 22 = .ok (.aload_n 0, 1) := by decide +kernel
theorem dX10_image_23 : decode cX10_image 23 = .ok (.getfield 10, 3) := by decide +kernel
theorem dX10_image_26 : decode cX10_image 26 = .ok (.invokevirtual 181, 3) := by decide +kernel
theorem dX10_image_29 : decode cX10_image 29 = .ok (.aload_n 0, 1) := by decide +kernel
theorem dX10_image_30 : decode cX10_image 30 = .ok (.getfield 20, 3) := by decide +kernel
theorem dX10_image_33 : decode cX10_image 33 = .ok (.iload_n 1, 1) := by decide +kernel
theorem dX10_image_34 : decode cX10_image 34 = .ok (.iconst 1, 1) := by decide +kernel
theorem dX10_image_35 : decode cX10_image 35 = .ok (.bastore, 1) := by decide +kernel
theorem dX10_image_36 : decode cX10_image 36 = .ok (.iconst 1, 1) := by decide +kernel
theorem dX10_image_37 : decode cX10_image 37 = .ok (.ireturn, 1) := by decide +kernel
set_option maxRecDepth 20000 in
theorem ggX10_from_X10_bad : GoodIn wsX10_from wsX10_bad := goodIn_r _ [9, 10, 42, 43, 44, 45, 46, 47, 48, 49, 50] (by decide +kernel) (by decide +kernel)
set_option maxRecDepth 20000 in
theorem gX10_from_X10_bad : GoodIn wsX10_from (wsV RX10 49 RX10 yX10_bad wsX10_bad) := goodIn_app (goodIn_of _ (by decide +kernel)) ggX10_from_X10_bad
set_option maxRecDepth 20000 in
theorem ggX10_from_X10_changed : GoodIn wsX10_from wsX10_changed := goodIn_r _ [14, 15, 16, 17, 18, 42, 43, 44, 45, 46, 47, 48, 49, 50, 51, 52, 53, 54, 55, 56, 57, 58, 59, 60, 61, 62, 63, 64, 65, 66, 67, 68, 69, 70, 71] (by decide +kernel) (by decide +kernel)
set_option maxRecDepth 20000 in
theorem gX10_from_X10_changed : GoodIn wsX10_from (wsV RX10 61 RX10 yX10_changed wsX10_changed) := goodIn_app (goodIn_of _ (by decide +kernel)) ggX10_from_X10_changed
set_option maxRecDepth 20000 in
theorem ggX10_from_X1_copy : GoodIn wsX10_from wsX1_copy := goodIn_r _ [23, 24, 25, 26, 27, 28, 29, 30, 31, 32, 33, 34, 22, 35, 36, 37, 38, 39, 40, 41, 72, 73, 74, 75, 76, 77, 78, 79, 80, 81] (by decide +kernel) (by decide +kernel)
set_option maxRecDepth 20000 in
theorem gX10_from_X1_copy : GoodIn wsX10_from (wsV RX10 181 RX1 yX1_copy wsX1_copy) := goodIn_app (goodIn_of _ (by decide +kernel)) ggX10_from_X1_copy
theorem dX10_from_0 : decode cX10_from 0 = .ok (.iload_n 1, 1) := by decide +kernel
theorem dX10_from_1 : decode cX10_from 1 = .ok (.ifCond .lt 8, 3) := by decide +kernel
theorem dX10_from_4 : decode cX10_from 4 = .ok (.iload_n 1, 1) := by decide +kernel
theorem dX10_from_5 : decode cX10_from 5 = .ok (.iconst 2, 1) := by decide +kernel
theorem dX10_from_6 : decode cX10_from 6 = .ok (.if_icmp .lt 10, 3) := by decide +kernel
theorem dX10_from_9 : decode cX10_from 9 = .ok (.aload_n 0, 1) := by decide +kernel
theorem dX10_from_10 : decode cX10_from 10 = .ok (.bipush (-2), 2) := by decide +kernel
theorem dX10_from_12 : decode cX10_from 12 = .ok (.invokevirtual 49, 3) := by decide +kernel
theorem dX10_from_15 : decode cX10_from 15 = .ok (.ireturn, 1) := by decide +kernel
theorem dX10_from_16 : decode cX10_from 16 = .ok (.aload_n 0, 1) := by decide +kernel
theorem dX10_from_17 : decode cX10_from 17 = .ok (.getfield 20, 3) := by decide +kernel
theorem dX10_from_20 : decode cX10_from 20 = .ok (.iload_n 1, 1) := by decide +kernel
theorem dX10_from_21 : decode cX10_from 21 = .ok (.baload, 1) := by decide +kernel
theorem dX10_from_22 : decode cX10_from 22 = .ok (.ifCond .ne 16, 3) := by decide +kernel
theorem dX10_from_25 : decode cX10_from 25 = .ok (.aload_n 0, 1) := by decide +kernel
theorem dX10_from_26 : decode cX10_from 26 = .ok (.dup, 1) := by decide +kernel
theorem dX10_from_27 : decode cX10_from 27 = .ok (.getfield 154, 3) := by decide +kernel
theorem dX10_from_30 : decode cX10_from 30 = .ok (.iconst 1, 1) := by decide +kernel
theorem dX10_from_31 : decode cX10_from 31 = .ok (.iadd, 1) := by decide +kernel
theorem dX10_from_32 : decode cX10_from 32 = .ok (.putfield 154, 3) := by decide +kernel
theorem dX10_from_35 : decode cX10_from 35 = .ok (.bipush (-3), 2) := by decide +kernel
theorem dX10_from_37 : decode cX10_from 37 = .ok (.ireturn, 1) := by decide +kernel
theorem dX10_from_38 : decode cX10_from 38 = .ok (.aload_n 0, 1) := by decide +kernel
theorem dX10_from_39 : decode cX10_from 39 = .ok (.invokevirtual 61, 3) := by decide +kernel
theorem dX10_from_42 : decode cX10_from 42 = .ok (.aload_n 0, 1) := by decide +kernel
theorem dX10_from_43 : decode cX10_from 43 = .ok (.getfield 10, 3) := by decide +kernel
theorem dX10_from_46 : decode cX10_from 46 = .ok (.aload_n 0, 1) := by decide +kernel
theorem dX10_from_47 : decode cX10_from 47 = .ok (.getfield 16, 3) := by decide +kernel
theorem dX10_from_50 : decode cX10_from 50 = .ok (.iload_n 1, 1) := by decide +kernel
theorem dX10_from_51 : decode cX10_from 51 = .ok (.aaload, 1) := by decide +kernel
theorem dX10_from_52 : decode cX10_from 52 = .ok (.invokevirtual 181, 3) := by decide +kernel
theorem dX10_from_55 : decode cX10_from 55 = .ok (.iconst 1, 1) := by decide +kernel
theorem dX10_from_56 : decode cX10_from 56 = .ok (.ireturn, 1) := by decide +kernel
set_option maxRecDepth 20000 in
theorem ggX10_status_X10_bad : GoodIn wsX10_status wsX10_bad := goodIn_r _ [8, 1, 9, 10, 11, 12, 13, 14, 15, 16, 17] (by decide +kernel) (by decide +kernel)
set_option maxRecDepth 20000 in
theorem gX10_status_X10_bad : GoodIn wsX10_status (wsV RX10 49 RX10 yX10_bad wsX10_bad) := goodIn_app (goodIn_of _ (by decide +kernel)) ggX10_status_X10_bad
theorem dX10_status_0 : decode cX10_status 0 = .ok (.iload_n 1, 1) := by decide +kernel
theorem dX10_status_1 : decode cX10_status 1 = .ok (.tableswitch 42 0 2 #[27, 32, 37], 27) := by decide +kernel
theorem dX10_status_28 : decode cX10_status 28 = .ok (.aload_n 0, 1) := by decide +kernel
theorem dX10_status_29 : decode cX10_status 29 = .ok (.getfield 184, 3) := by decide +kernel
theorem dX10_status_32 : decode cX10_status 32 = .ok (.ireturn, 1) := by decide +kernel
theorem dX10_status_33 : decode cX10_status 33 = .ok (.aload_n 0, 1) := by decide +kernel
theorem dX10_status_34 : decode cX10_status 34 = .ok (.getfield 154, 3) := by decide +kernel
theorem dX10_status_37 : decode cX10_status 37 = .ok (.ireturn, 1) := by decide +kernel
theorem dX10_status_38 : decode cX10_status 38 = .ok (.aload_n 0, 1) := by decide +kernel
theorem dX10_status_39 : decode cX10_status 39 = .ok (.getfield 187, 3) := by decide +kernel
theorem dX10_status_42 : decode cX10_status 42 = .ok (.ireturn, 1) := by decide +kernel
theorem dX10_status_43 : decode cX10_status 43 = .ok (.aload_n 0, 1) := by decide +kernel
theorem dX10_status_44 : decode cX10_status 44 = .ok (.iconst (-1), 1) := by decide +kernel
theorem dX10_status_45 : decode cX10_status 45 = .ok (.invokevirtual 49, 3) := by decide +kernel
theorem dX10_status_48 : decode cX10_status 48 = .ok (.ireturn, 1) := by decide +kernel
set_option maxRecDepth 20000 in
theorem ggX10_count_X10_bad : GoodIn wsX10_count wsX10_bad := goodIn_r _ [10, 11, 12, 13, 14, 15, 16, 17, 18, 19, 20] (by decide +kernel) (by decide +kernel)
set_option maxRecDepth 20000 in
theorem gX10_count_X10_bad : GoodIn wsX10_count (wsV RX10 49 RX10 yX10_bad wsX10_bad) := goodIn_app (goodIn_of _ (by decide +kernel)) ggX10_count_X10_bad
theorem dX10_count_0 : decode cX10_count 0 = .ok (.iload_n 1, 1) := by decide +kernel
theorem dX10_count_1 : decode cX10_count 1 = .ok (.tableswitch 63 0 3 #[31, 39, 47, 55], 31) := by decide +kernel
theorem dX10_count_32 : decode cX10_count 32 = .ok (.aload_n 0, 1) := by decide +kernel
theorem dX10_count_33 : decode cX10_count 33 = .ok (.getfield 10, 3) := by decide +kernel
theorem dX10_count_36 : decode cX10_count 36 = .ok (.getfield 53, 3) := by decide +kernel
theorem dX10_count_39 : decode cX10_count 39 = .ok (.ireturn, 1) := by decide +kernel
theorem dX10_count_40 : decode cX10_count 40 = .ok (.aload_n 0, 1) := by decide +kernel
theorem dX10_count_41 : decode cX10_count 41 = .ok (.getfield 10, 3) := by decide +kernel
theorem dX10_count_44 : decode cX10_count 44 = .ok (.getfield 127, 3) := by decide +kernel
theorem dX10_count_47 : decode cX10_count 47 = .ok (.ireturn, 1) := by decide +kernel
theorem dX10_count_48 : decode cX10_count 48 = .ok (.aload_n 0, 1) := by decide +kernel
theorem dX10_count_49 : decode cX10_count 49 = .ok (.getfield 10, 3) := by decide +kernel
theorem dX10_count_52 : decode cX10_count 52 = .ok (.getfield 109, 3) := by decide +kernel
theorem dX10_count_55 : decode cX10_count 55 = .ok (.ireturn, 1) := by decide +kernel
theorem dX10_count_56 : decode cX10_count 56 = .ok (.aload_n 0, 1) := by decide +kernel
theorem dX10_count_57 : decode cX10_count 57 = .ok (.getfield 10, 3) := by decide +kernel
theorem dX10_count_60 : decode cX10_count 60 = .ok (.getfield 160, 3) := by decide +kernel
theorem dX10_count_63 : decode cX10_count 63 = .ok (.ireturn, 1) := by decide +kernel
theorem dX10_count_64 : decode cX10_count 64 = .ok (.aload_n 0, 1) := by decide +kernel
theorem dX10_count_65 : decode cX10_count 65 = .ok (.bipush (-2), 2) := by decide +kernel
theorem dX10_count_67 : decode cX10_count 67 = .ok (.invokevirtual 49, 3) := by decide +kernel
theorem dX10_count_70 : decode cX10_count 70 = .ok (.ireturn, 1) := by decide +kernel
set_option maxRecDepth 20000 in
theorem ggX10_digest_X1_digestOfAll : GoodIn wsX10_digest wsX1_digestOfAll := goodIn_r _ [6, 7, 8, 9, 10, 11, 12, 13, 14, 15, 16, 17, 18, 19, 20, 21, 22, 23, 24, 5, 25, 35, 36, 37, 38, 39, 40, 41, 42, 43, 44, 45, 46, 47, 48, 49, 50, 51, 52, 53, 54, 55, 56, 57, 58, 59, 60, 61, 62, 63, 64, 65, 66, 67, 68] (by decide +kernel) (by decide +kernel)
set_option maxRecDepth 20000 in
theorem gX10_digest_X1_digestOfAll : GoodIn wsX10_digest (wsV RX10 190 RX1 yX1_digestOfAll wsX1_digestOfAll) := goodIn_app (goodIn_of _ (by decide +kernel)) ggX10_digest_X1_digestOfAll
theorem dX10_digest_0 : decode cX10_digest 0 = .ok (.aload_n 0, 1) := by decide +kernel
theorem dX10_digest_1 : decode cX10_digest 1 = .ok (.getfield 10, 3) := by decide +kernel
theorem dX10_digest_4 : decode cX10_digest 4 = .ok (.invokevirtual 190, 3) := by decide +kernel
theorem dX10_digest_7 : decode cX10_digest 7 = .ok (.lreturn, 1) := by decide +kernel
theorem dX10_bad_0 : decode cX10_bad 0 = .ok (.aload_n 0, 1) := by decide +kernel
theorem dX10_bad_1 : decode cX10_bad 1 = .ok (.dup, 1) := by decide +kernel
theorem dX10_bad_2 : decode cX10_bad 2 = .ok (.getfield 184, 3) := by decide +kernel
theorem dX10_bad_5 : decode cX10_bad 5 = .ok (.iconst 1, 1) := by decide +kernel
theorem dX10_bad_6 : decode cX10_bad 6 = .ok (.iadd, 1) := by decide +kernel
theorem dX10_bad_7 : decode cX10_bad 7 = .ok (.putfield 184, 3) := by decide +kernel
theorem dX10_bad_10 : decode cX10_bad 10 = .ok (.iload_n 1, 1) := by decide +kernel
theorem dX10_bad_11 : decode cX10_bad 11 = .ok (.ireturn, 1) := by decide +kernel
theorem dX10_full_0 : decode cX10_full 0 = .ok (.aload_n 0, 1) := by decide +kernel
theorem dX10_full_1 : decode cX10_full 1 = .ok (.dup, 1) := by decide +kernel
theorem dX10_full_2 : decode cX10_full 2 = .ok (.getfield 187, 3) := by decide +kernel
theorem dX10_full_5 : decode cX10_full 5 = .ok (.iconst 1, 1) := by decide +kernel
theorem dX10_full_6 : decode cX10_full 6 = .ok (.iadd, 1) := by decide +kernel
theorem dX10_full_7 : decode cX10_full 7 = .ok (.putfield 187, 3) := by decide +kernel
theorem dX10_full_10 : decode cX10_full 10 = .ok (.bipush (-4), 2) := by decide +kernel
theorem dX10_full_12 : decode cX10_full 12 = .ok (.ireturn, 1) := by decide +kernel
theorem dX10_changed_0 : decode cX10_changed 0 = .ok (.aload_n 0, 1) := by decide +kernel
theorem dX10_changed_1 : decode cX10_changed 1 = .ok (.getfield 34, 3) := by decide +kernel
theorem dX10_changed_4 : decode cX10_changed 4 = .ok (.iconst 0, 1) := by decide +kernel
theorem dX10_changed_5 : decode cX10_changed 5 = .ok (.putfield 194, 3) := by decide +kernel
theorem dX10_changed_8 : decode cX10_changed 8 = .ok (.aload_n 0, 1) := by decide +kernel
theorem dX10_changed_9 : decode cX10_changed 9 = .ok (.getfield 41, 3) := by decide +kernel
theorem dX10_changed_12 : decode cX10_changed 12 = .ok (.iconst 0, 1) := by decide +kernel
theorem dX10_changed_13 : decode cX10_changed 13 = .ok (.putfield 198, 3) := by decide +kernel
theorem dX10_changed_16 : decode cX10_changed 16 = .ok (.return_, 1) := by decide +kernel
theorem dX10_fitsPorter_0 : decode cX10_fitsPorter 0 = .ok (.iload_n 1, 1) := by decide +kernel
theorem dX10_fitsPorter_1 : decode cX10_fitsPorter 1 = .ok (.getstatic 199, 3) := by decide +kernel
theorem dX10_fitsPorter_4 : decode cX10_fitsPorter 4 = .ok (.iload_n 0, 1) := by decide +kernel
theorem dX10_fitsPorter_5 : decode cX10_fitsPorter 5 = .ok (.iaload, 1) := by decide +kernel
theorem dX10_fitsPorter_6 : decode cX10_fitsPorter 6 = .ok (.if_icmp .lt 16, 3) := by decide +kernel
theorem dX10_fitsPorter_9 : decode cX10_fitsPorter 9 = .ok (.iload_n 1, 1) := by decide +kernel
theorem dX10_fitsPorter_10 : decode cX10_fitsPorter 10 = .ok (.getstatic 202, 3) := by decide +kernel
theorem dX10_fitsPorter_13 : decode cX10_fitsPorter 13 = .ok (.iload_n 0, 1) := by decide +kernel
theorem dX10_fitsPorter_14 : decode cX10_fitsPorter 14 = .ok (.iaload, 1) := by decide +kernel
theorem dX10_fitsPorter_15 : decode cX10_fitsPorter 15 = .ok (.if_icmp .gt 7, 3) := by decide +kernel
theorem dX10_fitsPorter_18 : decode cX10_fitsPorter 18 = .ok (.iconst 1, 1) := by decide +kernel
theorem dX10_fitsPorter_19 : decode cX10_fitsPorter 19 = .ok (.goto 4, 3) := by decide +kernel
theorem dX10_fitsPorter_22 : decode cX10_fitsPorter 22 = .ok (.iconst 0, 1) := by decide +kernel
theorem dX10_fitsPorter_23 : decode cX10_fitsPorter 23 = .ok (.ireturn, 1) := by decide +kernel
theorem dX10_isMinute_0 : decode cX10_isMinute 0 = .ok (.iload_n 0, 1) := by decide +kernel
theorem dX10_isMinute_1 : decode cX10_isMinute 1 = .ok (.ifCond .lt 14, 3) := by decide +kernel
theorem dX10_isMinute_4 : decode cX10_isMinute 4 = .ok (.iload_n 0, 1) := by decide +kernel
theorem dX10_isMinute_5 : decode cX10_isMinute 5 = .ok (.sipush 240, 3) := by decide +kernel
theorem dX10_isMinute_8 : decode cX10_isMinute 8 = .ok (.if_icmp .ge 7, 3) := by decide +kernel
theorem dX10_isMinute_11 : decode cX10_isMinute 11 = .ok (.iconst 1, 1) := by decide +kernel
theorem dX10_isMinute_12 : decode cX10_isMinute 12 = .ok (.goto 4, 3) := by decide +kernel
theorem dX10_isMinute_15 : decode cX10_isMinute 15 = .ok (.iconst 0, 1) := by decide +kernel
theorem dX10_isMinute_16 : decode cX10_isMinute 16 = .ok (.ireturn, 1) := by decide +kernel
theorem dX10_hasPorterIn_0 : decode cX10_hasPorterIn 0 = .ok (.iload_n 0, 1) := by decide +kernel
theorem dX10_hasPorterIn_1 : decode cX10_hasPorterIn 1 = .ok (.iload_n 1, 1) := by decide +kernel
theorem dX10_hasPorterIn_2 : decode cX10_hasPorterIn 2 = .ok (.ishr, 1) := by decide +kernel
theorem dX10_hasPorterIn_3 : decode cX10_hasPorterIn 3 = .ok (.iconst 1, 1) := by decide +kernel
theorem dX10_hasPorterIn_4 : decode cX10_hasPorterIn 4 = .ok (.iand, 1) := by decide +kernel
theorem dX10_hasPorterIn_5 : decode cX10_hasPorterIn 5 = .ok (.ifCond .eq 7, 3) := by decide +kernel
theorem dX10_hasPorterIn_8 : decode cX10_hasPorterIn 8 = .ok (.iconst 1, 1) := by decide +kernel
theorem dX10_hasPorterIn_9 : decode cX10_hasPorterIn 9 = .ok (.goto 4, 3) := by decide +kernel
theorem dX10_hasPorterIn_12 : decode cX10_hasPorterIn 12 = .ok (.iconst 0, 1) := by decide +kernel
theorem dX10_hasPorterIn_13 : decode cX10_hasPorterIn 13 = .ok (.ireturn, 1) := by decide +kernel
theorem dX10_isOnOneSide_0 : decode cX10_isOnOneSide 0 = .ok (.iload_n 0, 1) := by decide +kernel
theorem dX10_isOnOneSide_1 : decode cX10_isOnOneSide 1 = .ok (.iload_n 1, 1) := by decide +kernel
theorem dX10_isOnOneSide_2 : decode cX10_isOnOneSide 2 = .ok (.iand, 1) := by decide +kernel
theorem dX10_isOnOneSide_3 : decode cX10_isOnOneSide 3 = .ok (.ifCond .eq 10, 3) := by decide +kernel
theorem dX10_isOnOneSide_6 : decode cX10_isOnOneSide 6 = .ok (.iload_n 0, 1) := by decide +kernel
theorem dX10_isOnOneSide_7 : decode cX10_isOnOneSide 7 = .ok (.iload_n 1, 1) := by decide +kernel
theorem dX10_isOnOneSide_8 : decode cX10_isOnOneSide 8 = .ok (.iand, 1) := by decide +kernel
theorem dX10_isOnOneSide_9 : decode cX10_isOnOneSide 9 = .ok (.iload_n 0, 1) := by decide +kernel
theorem dX10_isOnOneSide_10 : decode cX10_isOnOneSide 10 = .ok (.if_icmp .ne 7, 3) := by decide +kernel
theorem dX10_isOnOneSide_13 : decode cX10_isOnOneSide 13 = .ok (.iconst 1, 1) := by decide +kernel
theorem dX10_isOnOneSide_14 : decode cX10_isOnOneSide 14 = .ok (.goto 4, 3) := by decide +kernel
theorem dX10_isOnOneSide_17 : decode cX10_isOnOneSide 17 = .ok (.iconst 0, 1) := by decide +kernel
theorem dX10_isOnOneSide_18 : decode cX10_isOnOneSide 18 = .ok (.ireturn, 1) := by decide +kernel
set_option maxRecDepth 20000 in
theorem ggX10_newPorter_X4_init : GoodIn wsX10_newPorter wsX4_init := goodIn_r _ [21, 22, 23, 18, 24, 25, 26, 27, 28, 29, 30, 31, 61, 62, 63, 64, 65, 66, 67, 68, 53, 54, 55, 56, 49, 50, 51, 52, 69, 70, 71, 72, 57, 58, 59, 60] (by decide +kernel) (by decide +kernel)
set_option maxRecDepth 20000 in
theorem gX10_newPorter_X4_init : GoodIn wsX10_newPorter (wsX4_init) := ggX10_newPorter_X4_init
set_option maxRecDepth 20000 in
theorem ggX10_newPorter_X3_init : GoodIn wsX10_newPorter wsX3_init := goodIn_r _ [34, 35, 23, 18, 24, 25, 26, 27, 28, 29, 30, 31, 61, 62, 63, 64, 65, 66, 67, 68, 53, 54, 55, 56, 49, 50, 51, 52, 69, 70, 71, 72, 57, 58, 59, 60] (by decide +kernel) (by decide +kernel)
set_option maxRecDepth 20000 in
theorem gX10_newPorter_X3_init : GoodIn wsX10_newPorter (wsX3_init) := ggX10_newPorter_X3_init
set_option maxRecDepth 20000 in
theorem ggX10_newPorter_X9_init : GoodIn wsX10_newPorter wsX9_init := goodIn_r _ [38, 39, 20, 3, 21, 22, 23, 18, 24, 25, 26, 27, 28, 29, 30, 31, 61, 62, 63, 64, 65, 66, 67, 68, 53, 54, 55, 56, 49, 50, 51, 52, 69, 70, 71, 72, 57, 58, 59, 60] (by decide +kernel) (by decide +kernel)
set_option maxRecDepth 20000 in
theorem gX10_newPorter_X9_init : GoodIn wsX10_newPorter (wsX9_init) := ggX10_newPorter_X9_init
set_option maxRecDepth 20000 in
theorem ggX10_newPorter_X0_init : GoodIn wsX10_newPorter wsX0_init := goodIn_r _ [42, 43, 33, 6, 34, 35, 23, 18, 24, 25, 26, 27, 28, 29, 30, 31, 61, 62, 63, 64, 65, 66, 67, 68, 53, 54, 55, 56, 49, 50, 51, 52, 69, 70, 71, 72, 57, 58, 59, 60] (by decide +kernel) (by decide +kernel)
set_option maxRecDepth 20000 in
theorem gX10_newPorter_X0_init : GoodIn wsX10_newPorter (wsX0_init) := ggX10_newPorter_X0_init
set_option maxRecDepth 20000 in
theorem ggX10_newPorter_X2_init : GoodIn wsX10_newPorter wsX2_init := goodIn_r _ [46, 47, 23, 18, 24, 25, 26, 27, 28, 29, 30, 31, 61, 62, 63, 64, 65, 66, 67, 68, 53, 54, 55, 56, 49, 50, 51, 52, 69, 70, 71, 72, 57, 58, 59, 60] (by decide +kernel) (by decide +kernel)
set_option maxRecDepth 20000 in
theorem gX10_newPorter_X2_init : GoodIn wsX10_newPorter (wsX2_init) := ggX10_newPorter_X2_init
set_option maxRecDepth 20000 in
theorem ggX10_newPorter_X6_init : GoodIn wsX10_newPorter wsX6_init := goodIn_r _ [24, 25, 26, 27, 28, 29, 30, 31, 61, 62, 63, 64, 65, 66, 67, 68, 53, 54, 55, 56, 49, 50, 51, 52, 69, 70, 71, 72, 57, 58, 59, 60] (by decide +kernel) (by decide +kernel)
set_option maxRecDepth 20000 in
theorem gX10_newPorter_X6_init : GoodIn wsX10_newPorter (wsX6_init) := ggX10_newPorter_X6_init
theorem dX10_newPorter_0 : decode cX10_newPorter 0 = .ok (.iload_n 3, 1) := by decide +kernel
theorem dX10_newPorter_1 : decode cX10_newPorter 1 = .ok (.tableswitch 95 1 5 #[35, 47, 59, 71, 83], 35) := by decide +kernel
theorem dX10_newPorter_36 : decode cX10_newPorter 36 = .ok (.new 205, 3) := by decide +kernel
theorem dX10_newPorter_39 : decode cX10_newPorter 39 = .ok (.dup, 1) := by decide +kernel
theorem dX10_newPorter_40 : decode cX10_newPorter 40 = .ok (.iload_n 0, 1) := by decide +kernel
theorem dX10_newPorter_41 : decode cX10_newPorter 41 = .ok (.iload_n 1, 1) := by decide +kernel
theorem dX10_newPorter_42 : decode cX10_newPorter 42 = .ok (.iload_n 2, 1) := by decide +kernel
theorem dX10_newPorter_43 : decode cX10_newPorter 43 = .ok (.iload_n 3, 1) := by decide +kernel
theorem dX10_newPorter_44 : decode cX10_newPorter 44 = .ok (.invokespecial 207, 3) := by decide +kernel
theorem dX10_newPorter_47 : decode cX10_newPorter 47 = .ok (.areturn, 1) := by decide +kernel
theorem dX10_newPorter_48 : decode cX10_newPorter 48 = .ok (.new 210, 3) := by decide +kernel
theorem dX10_newPorter_51 : decode cX10_newPorter 51 = .ok (.dup, 1) := by decide +kernel
theorem dX10_newPorter_52 : decode cX10_newPorter 52 = .ok (.iload_n 0, 1) := by decide +kernel
theorem dX10_newPorter_53 : decode cX10_newPorter 53 = .ok (.iload_n 1, 1) := by decide +kernel
theorem dX10_newPorter_54 : decode cX10_newPorter 54 = .ok (.iload_n 2, 1) := by decide +kernel
theorem dX10_newPorter_55 : decode cX10_newPorter 55 = .ok (.iload_n 3, 1) := by decide +kernel
theorem dX10_newPorter_56 : decode cX10_newPorter 56 = .ok (.invokespecial 212, 3) := by decide +kernel
theorem dX10_newPorter_59 : decode cX10_newPorter 59 = .ok (.areturn, 1) := by decide +kernel
theorem dX10_newPorter_60 : decode cX10_newPorter 60 = .ok (.new 213, 3) := by decide +kernel
theorem dX10_newPorter_63 : decode cX10_newPorter 63 = .ok (.dup, 1) := by decide +kernel
theorem dX10_newPorter_64 : decode cX10_newPorter 64 = .ok (.iload_n 0, 1) := by decide +kernel
theorem dX10_newPorter_65 : decode cX10_newPorter 65 = .ok (.iload_n 1, 1) := by decide +kernel
theorem dX10_newPorter_66 : decode cX10_newPorter 66 = .ok (.iload_n 2, 1) := by decide +kernel
theorem dX10_newPorter_67 : decode cX10_newPorter 67 = .ok (.iload_n 3, 1) := by decide +kernel
theorem dX10_newPorter_68 : decode cX10_newPorter 68 = .ok (.invokespecial 215, 3) := by decide +kernel
theorem dX10_newPorter_71 : decode cX10_newPorter 71 = .ok (.areturn, 1) := by decide +kernel
theorem dX10_newPorter_72 : decode cX10_newPorter 72 = .ok (.new 216, 3) := by decide +kernel
theorem dX10_newPorter_75 : decode cX10_newPorter 75 = .ok (.dup, 1) := by decide +kernel
theorem dX10_newPorter_76 : decode cX10_newPorter 76 = .ok (.iload_n 0, 1) := by decide +kernel
theorem dX10_newPorter_77 : decode cX10_newPorter 77 = .ok (.iload_n 1, 1) := by decide +kernel
theorem dX10_newPorter_78 : decode cX10_newPorter 78 = .ok (.iload_n 2, 1) := by decide +kernel
theorem dX10_newPorter_79 : decode cX10_newPorter 79 = .ok (.iload_n 3, 1) := by decide +kernel
theorem dX10_newPorter_80 : decode cX10_newPorter 80 = .ok (.invokespecial 218, 3) := by decide +kernel
theorem dX10_newPorter_83 : decode cX10_newPorter 83 = .ok (.areturn, 1) := by decide +kernel
theorem dX10_newPorter_84 : decode cX10_newPorter 84 = .ok (.new 219, 3) := by decide +kernel
theorem dX10_newPorter_87 : decode cX10_newPorter 87 = .ok (.dup, 1) := by decide +kernel
theorem dX10_newPorter_88 : decode cX10_newPorter 88 = .ok (.iload_n 0, 1) := by decide +kernel
theorem dX10_newPorter_89 : decode cX10_newPorter 89 = .ok (.iload_n 1, 1) := by decide +kernel
theorem dX10_newPorter_90 : decode cX10_newPorter 90 = .ok (.iload_n 2, 1) := by decide +kernel
theorem dX10_newPorter_91 : decode cX10_newPorter 91 = .ok (.iload_n 3, 1) := by decide +kernel
theorem dX10_newPorter_92 : decode cX10_newPorter 92 = .ok (.invokespecial 221, 3) := by decide +kernel
theorem dX10_newPorter_95 : decode cX10_newPorter 95 = .ok (.areturn, 1) := by decide +kernel
theorem dX10_newPorter_96 : decode cX10_newPorter 96 = .ok (.new 95, 3) := by decide +kernel
theorem dX10_newPorter_99 : decode cX10_newPorter 99 = .ok (.dup, 1) := by decide +kernel
theorem dX10_newPorter_100 : decode cX10_newPorter 100 = .ok (.iload_n 0, 1) := by decide +kernel
theorem dX10_newPorter_101 : decode cX10_newPorter 101 = .ok (.iload_n 1, 1) := by decide +kernel
theorem dX10_newPorter_102 : decode cX10_newPorter 102 = .ok (.iload_n 2, 1) := by decide +kernel
theorem dX10_newPorter_103 : decode cX10_newPorter 103 = .ok (.iload_n 3, 1) := by decide +kernel
theorem dX10_newPorter_104 : decode cX10_newPorter 104 = .ok (.invokespecial 222, 3) := by decide +kernel
theorem dX10_newPorter_107 : decode cX10_newPorter 107 = .ok (.areturn, 1) := by decide +kernel
set_option maxRecDepth 20000 in
theorem ggX10_withAllOf_X10_hasPorterIn : GoodIn wsX10_withAllOf wsX10_hasPorterIn := goodIn_r _ [6] (by decide +kernel) (by decide +kernel)
set_option maxRecDepth 20000 in
theorem gX10_withAllOf_X10_hasPorterIn : GoodIn wsX10_withAllOf (va_wsS RX10 151 yX10_hasPorterIn wsX10_hasPorterIn) := goodIn_app (goodIn_of _ (by decide +kernel)) ggX10_withAllOf_X10_hasPorterIn
theorem dX10_withAllOf_0 : decode cX10_withAllOf 0 = .ok (.ldc2_w 223, 3) := by decide +kernel
theorem dX10_withAllOf_3 : decode cX10_withAllOf 3 = .ok (.lstore_n 1, 1) := by decide +kernel
theorem dX10_withAllOf_4 : decode cX10_withAllOf 4 = .ok (.iconst 0, 1) := by decide +kernel
theorem dX10_withAllOf_5 : decode cX10_withAllOf 5 = .ok (.istore_n 3, 1) := by decide +kernel
theorem dX10_withAllOf_6 : decode cX10_withAllOf 6 = .ok (.iload_n 3, 1) := by decide +kernel
theorem dX10_withAllOf_7 : decode cX10_withAllOf 7 = .ok (.bipush 6, 2) := by decide +kernel
theorem dX10_withAllOf_9 : decode cX10_withAllOf 9 = .ok (.if_icmp .ge 29, 3) := by decide +kernel
theorem dX10_withAllOf_12 : decode cX10_withAllOf 12 = .ok (.iload_n 0, 1) := by decide +kernel
theorem dX10_withAllOf_13 : decode cX10_withAllOf 13 = .ok (.iload_n 3, 1) := by decide +kernel
theorem dX10_withAllOf_14 : decode cX10_withAllOf 14 = .ok (.invokestatic 151, 3) := by decide +kernel
theorem dX10_withAllOf_17 : decode cX10_withAllOf 17 = .ok (.ifCond .eq 15, 3) := by decide +kernel
theorem dX10_withAllOf_20 : decode cX10_withAllOf 20 = .ok (.lload_n 1, 1) := by decide +kernel
theorem dX10_withAllOf_21 : decode cX10_withAllOf 21 = .ok (.getstatic 225, 3) := by decide +kernel
theorem dX10_withAllOf_24 : decode cX10_withAllOf 24 = .ok (.iload_n 3, 1) := by decide +kernel
theorem dX10_withAllOf_25 : decode cX10_withAllOf 25 = .ok (.laload, 1) := by decide +kernel
theorem dX10_withAllOf_26 : decode cX10_withAllOf 26 = .ok (.ldc2_w 223, 3) := by decide +kernel
theorem dX10_withAllOf_29 : decode cX10_withAllOf 29 = .ok (.lxor, 1) := by decide +kernel
theorem dX10_withAllOf_30 : decode cX10_withAllOf 30 = .ok (.land, 1) := by decide +kernel
theorem dX10_withAllOf_31 : decode cX10_withAllOf 31 = .ok (.lstore_n 1, 1) := by decide +kernel
theorem dX10_withAllOf_32 : decode cX10_withAllOf 32 = .ok (.iinc 3 1, 3) := by decide +kernel
theorem dX10_withAllOf_35 : decode cX10_withAllOf 35 = .ok (.goto (-29), 3) := by decide +kernel
theorem dX10_withAllOf_38 : decode cX10_withAllOf 38 = .ok (.lload_n 1, 1) := by decide +kernel
theorem dX10_withAllOf_39 : decode cX10_withAllOf 39 = .ok (.lreturn, 1) := by decide +kernel
set_option maxRecDepth 20000 in
theorem ggX10_crossed_X10_hasPorterIn : GoodIn wsX10_crossed wsX10_hasPorterIn := goodIn_r _ [6] (by decide +kernel) (by decide +kernel)
set_option maxRecDepth 20000 in
theorem gX10_crossed_X10_hasPorterIn : GoodIn wsX10_crossed (va_wsS RX10 151 yX10_hasPorterIn wsX10_hasPorterIn) := goodIn_app (goodIn_of _ (by decide +kernel)) ggX10_crossed_X10_hasPorterIn
theorem dX10_crossed_0 : decode cX10_crossed 0 = .ok (.lload_n 0, 1) := by decide +kernel
theorem dX10_crossed_1 : decode cX10_crossed 1 = .ok (.lstore_n 3, 1) := by decide +kernel
theorem dX10_crossed_2 : decode cX10_crossed 2 = .ok (.ldc2_w 223, 3) := by decide +kernel
theorem dX10_crossed_5 : decode cX10_crossed 5 = .ok (.lstore 5, 2) := by decide +kernel
theorem dX10_crossed_7 : decode cX10_crossed 7 = .ok (.ldc2_w 223, 3) := by decide +kernel
theorem dX10_crossed_10 : decode cX10_crossed 10 = .ok (.lstore 7, 2) := by decide +kernel
theorem dX10_crossed_12 : decode cX10_crossed 12 = .ok (.iconst 0, 1) := by decide +kernel
theorem dX10_crossed_13 : decode cX10_crossed 13 = .ok (.istore 9, 2) := by decide +kernel
theorem dX10_crossed_15 : decode cX10_crossed 15 = .ok (.iload 9, 2) := by decide +kernel
theorem dX10_crossed_17 : decode cX10_crossed 17 = .ok (.bipush 6, 2) := by decide +kernel
theorem dX10_crossed_19 : decode cX10_crossed 19 = .ok (.if_icmp .ge 72, 3) := by decide +kernel
theorem dX10_crossed_22 : decode cX10_crossed 22 = .ok (.iload_n 2, 1) := by decide +kernel
theorem dX10_crossed_23 : decode cX10_crossed 23 = .ok (.iload 9, 2) := by decide +kernel
theorem dX10_crossed_25 : decode cX10_crossed 25 = .ok (.invokestatic 151, 3) := by decide +kernel
theorem dX10_crossed_28 : decode cX10_crossed 28 = .ok (.ifCond .eq 57, 3) := by decide +kernel
theorem dX10_crossed_31 : decode cX10_crossed 31 = .ok (.lload_n 3, 1) := by decide +kernel
theorem dX10_crossed_32 : decode cX10_crossed 32 = .ok (.getstatic 225, 3) := by decide +kernel
theorem dX10_crossed_35 : decode cX10_crossed 35 = .ok (.iload 9, 2) := by decide +kernel
theorem dX10_crossed_37 : decode cX10_crossed 37 = .ok (.laload, 1) := by decide +kernel
theorem dX10_crossed_38 : decode cX10_crossed 38 = .ok (.land, 1) := by decide +kernel
theorem dX10_crossed_39 : decode cX10_crossed 39 = .ok (.iconst 1, 1) := by decide +kernel
theorem dX10_crossed_40 : decode cX10_crossed 40 = .ok (.iload 9, 2) := by decide +kernel
theorem dX10_crossed_42 : decode cX10_crossed 42 = .ok (.ishl, 1) := by decide +kernel
theorem dX10_crossed_43 : decode cX10_crossed 43 = .ok (.lshl, 1) := by decide +kernel
theorem dX10_crossed_44 : decode cX10_crossed 44 = .ok (.lload_n 3, 1) := by decide +kernel
theorem dX10_crossed_45 : decode cX10_crossed 45 = .ok (.iconst 1, 1) := by decide +kernel
theorem dX10_crossed_46 : decode cX10_crossed 46 = .ok (.iload 9, 2) := by decide +kernel
theorem dX10_crossed_48 : decode cX10_crossed 48 = .ok (.ishl, 1) := by decide +kernel
theorem dX10_crossed_49 : decode cX10_crossed 49 = .ok (.lushr, 1) := by decide +kernel
theorem dX10_crossed_50 : decode cX10_crossed 50 = .ok (.getstatic 225, 3) := by decide +kernel
theorem dX10_crossed_53 : decode cX10_crossed 53 = .ok (.iload 9, 2) := by decide +kernel
theorem dX10_crossed_55 : decode cX10_crossed 55 = .ok (.laload, 1) := by decide +kernel
theorem dX10_crossed_56 : decode cX10_crossed 56 = .ok (.land, 1) := by decide +kernel
theorem dX10_crossed_57 : decode cX10_crossed 57 = .ok (.lor, 1) := by decide +kernel
theorem dX10_crossed_58 : decode cX10_crossed 58 = .ok (.lstore_n 3, 1) := by decide +kernel
theorem dX10_crossed_59 : decode cX10_crossed 59 = .ok (.lload 5, 2) := by decide +kernel
theorem dX10_crossed_61 : decode cX10_crossed 61 = .ok (.getstatic 225, 3) := by decide +kernel
theorem dX10_crossed_64 : decode cX10_crossed 64 = .ok (.iload 9, 2) := by decide +kernel
theorem dX10_crossed_66 : decode cX10_crossed 66 = .ok (.laload, 1) := by decide +kernel
theorem dX10_crossed_67 : decode cX10_crossed 67 = .ok (.land, 1) := by decide +kernel
theorem dX10_crossed_68 : decode cX10_crossed 68 = .ok (.lstore 5, 2) := by decide +kernel
theorem dX10_crossed_70 : decode cX10_crossed 70 = .ok (.lload 7, 2) := by decide +kernel
theorem dX10_crossed_72 : decode cX10_crossed 72 = .ok (.getstatic 225, 3) := by decide +kernel
theorem dX10_crossed_75 : decode cX10_crossed 75 = .ok (.iload 9, 2) := by decide +kernel
theorem dX10_crossed_77 : decode cX10_crossed 77 = .ok (.laload, 1) := by decide +kernel
theorem dX10_crossed_78 : decode cX10_crossed 78 = .ok (.ldc2_w 223, 3) := by decide +kernel
theorem dX10_crossed_81 : decode cX10_crossed 81 = .ok (.lxor, 1) := by decide +kernel
theorem dX10_crossed_82 : decode cX10_crossed 82 = .ok (.land, 1) := by decide +kernel
theorem dX10_crossed_83 : decode cX10_crossed 83 = .ok (.lstore 7, 2) := by decide +kernel
theorem dX10_crossed_85 : decode cX10_crossed 85 = .ok (.iinc 9 1, 3) := by decide +kernel
theorem dX10_crossed_88 : decode cX10_crossed 88 = .ok (.goto (-73), 3) := by decide +kernel
theorem dX10_crossed_91 : decode cX10_crossed 91 = .ok (.lload_n 3, 1) := by decide +kernel
theorem dX10_crossed_92 : decode cX10_crossed 92 = .ok (.lload 5, 2) := by decide +kernel
theorem dX10_crossed_94 : decode cX10_crossed 94 = .ok (.lload 7, 2) := by decide +kernel
theorem dX10_crossed_96 : decode cX10_crossed 96 = .ok (.lor, 1) := by decide +kernel
theorem dX10_crossed_97 : decode cX10_crossed 97 = .ok (.land, 1) := by decide +kernel
theorem dX10_crossed_98 : decode cX10_crossed 98 = .ok (.lreturn, 1) := by decide +kernel
