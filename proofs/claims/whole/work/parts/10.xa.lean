set_option maxRecDepth 20000 in
theorem ggX0_init_X3_init : GoodIn wsX0_init wsX3_init := goodIn_r _ [4, 5, 6, 7, 8, 9, 10, 11, 12, 13, 14, 15, 16, 17, 18, 19, 20, 21, 22, 23, 24, 25, 26, 27, 28, 29, 30, 31, 32, 33, 34, 35, 36, 37, 38, 39] (by decide +kernel) (by decide +kernel)
set_option maxRecDepth 20000 in
theorem gX0_init_X3_init : GoodIn wsX0_init (wsX3_init) := ggX0_init_X3_init
theorem dX0_init_0 : decode cX0_init 0 = .ok (.aload_n 0, 1) := by decide +kernel
theorem dX0_init_1 : decode cX0_init 1 = .ok (.iload_n 1, 1) := by decide +kernel
theorem dX0_init_2 : decode cX0_init 2 = .ok (.iload_n 2, 1) := by decide +kernel
theorem dX0_init_3 : decode cX0_init 3 = .ok (.iload_n 3, 1) := by decide +kernel
theorem dX0_init_4 : decode cX0_init 4 = .ok (.iload 4, 2) := by decide +kernel
theorem dX0_init_6 : decode cX0_init 6 = .ok (.invokespecial 1, 3) := by decide +kernel
theorem dX0_init_9 : decode cX0_init 9 = .ok (.return_, 1) := by decide +kernel
theorem dX0_isNeverSo_0 : decode cX0_isNeverSo 0 = .ok (.iload_n 3, 1) := by decide +kernel
theorem dX0_isNeverSo_1 : decode cX0_isNeverSo 1 = .ok (.ireturn, 1) := by decide +kernel
set_option maxRecDepth 20000 in
theorem ggX2_init_X6_init : GoodIn wsX2_init wsX6_init := goodIn_r _ [4, 5, 6, 7, 8, 9, 10, 11, 12, 13, 14, 15, 16, 17, 18, 19, 20, 21, 22, 23, 24, 25, 26, 27, 28, 29, 30, 31, 32, 33, 34, 35] (by decide +kernel) (by decide +kernel)
set_option maxRecDepth 20000 in
theorem gX2_init_X6_init : GoodIn wsX2_init (wsX6_init) := ggX2_init_X6_init
theorem dX2_init_0 : decode cX2_init 0 = .ok (.aload_n 0, 1) := by decide +kernel
theorem dX2_init_1 : decode cX2_init 1 = .ok (.iload_n 1, 1) := by decide +kernel
theorem dX2_init_2 : decode cX2_init 2 = .ok (.iload_n 2, 1) := by decide +kernel
theorem dX2_init_3 : decode cX2_init 3 = .ok (.iload_n 3, 1) := by decide +kernel
theorem dX2_init_4 : decode cX2_init 4 = .ok (.iload 4, 2) := by decide +kernel
theorem dX2_init_6 : decode cX2_init 6 = .ok (.invokespecial 1, 3) := by decide +kernel
theorem dX2_init_9 : decode cX2_init 9 = .ok (.return_, 1) := by decide +kernel
theorem dX2_isGuide_0 : decode cX2_isGuide 0 = .ok (.iconst 1, 1) := by decide +kernel
theorem dX2_isGuide_1 : decode cX2_isGuide 1 = .ok (.ireturn, 1) := by decide +kernel
set_option maxRecDepth 20000 in
theorem ggX3_init_X6_init : GoodIn wsX3_init wsX6_init := goodIn_r _ [4, 5, 6, 7, 8, 9, 10, 11, 12, 13, 14, 15, 16, 17, 18, 19, 20, 21, 22, 23, 24, 25, 26, 27, 28, 29, 30, 31, 32, 33, 34, 35] (by decide +kernel) (by decide +kernel)
set_option maxRecDepth 20000 in
theorem gX3_init_X6_init : GoodIn wsX3_init (wsX6_init) := ggX3_init_X6_init
theorem dX3_init_0 : decode cX3_init 0 = .ok (.aload_n 0, 1) := by decide +kernel
theorem dX3_init_1 : decode cX3_init 1 = .ok (.iload_n 1, 1) := by decide +kernel
theorem dX3_init_2 : decode cX3_init 2 = .ok (.iload_n 2, 1) := by decide +kernel
theorem dX3_init_3 : decode cX3_init 3 = .ok (.iload_n 3, 1) := by decide +kernel
theorem dX3_init_4 : decode cX3_init 4 = .ok (.iload 4, 2) := by decide +kernel
theorem dX3_init_6 : decode cX3_init 6 = .ok (.invokespecial 1, 3) := by decide +kernel
theorem dX3_init_9 : decode cX3_init 9 = .ok (.return_, 1) := by decide +kernel
theorem dX3_weightFor_0 : decode cX3_weightFor 0 = .ok (.iload_n 1, 1) := by decide +kernel
theorem dX3_weightFor_1 : decode cX3_weightFor 1 = .ok (.ifCond .eq 12, 3) := by decide +kernel
theorem dX3_weightFor_4 : decode cX3_weightFor 4 = .ok (.aload_n 0, 1) := by decide +kernel
theorem dX3_weightFor_5 : decode cX3_weightFor 5 = .ok (.getfield 7, 3) := by decide +kernel
theorem dX3_weightFor_8 : decode cX3_weightFor 8 = .ok (.iload_n 2, 1) := by decide +kernel
theorem dX3_weightFor_9 : decode cX3_weightFor 9 = .ok (.iadd, 1) := by decide +kernel
theorem dX3_weightFor_10 : decode cX3_weightFor 10 = .ok (.goto 7, 3) := by decide +kernel
theorem dX3_weightFor_13 : decode cX3_weightFor 13 = .ok (.aload_n 0, 1) := by decide +kernel
theorem dX3_weightFor_14 : decode cX3_weightFor 14 = .ok (.getfield 7, 3) := by decide +kernel
theorem dX3_weightFor_17 : decode cX3_weightFor 17 = .ok (.ireturn, 1) := by decide +kernel
set_option maxRecDepth 20000 in
theorem ggX4_init_X6_init : GoodIn wsX4_init wsX6_init := goodIn_r _ [4, 5, 6, 7, 8, 9, 10, 11, 12, 13, 14, 15, 16, 17, 18, 19, 20, 21, 22, 23, 24, 25, 26, 27, 28, 29, 30, 31, 32, 33, 34, 35] (by decide +kernel) (by decide +kernel)
set_option maxRecDepth 20000 in
theorem gX4_init_X6_init : GoodIn wsX4_init (wsX6_init) := ggX4_init_X6_init
theorem dX4_init_0 : decode cX4_init 0 = .ok (.aload_n 0, 1) := by decide +kernel
theorem dX4_init_1 : decode cX4_init 1 = .ok (.iload_n 1, 1) := by decide +kernel
theorem dX4_init_2 : decode cX4_init 2 = .ok (.iload_n 2, 1) := by decide +kernel
theorem dX4_init_3 : decode cX4_init 3 = .ok (.iload_n 3, 1) := by decide +kernel
theorem dX4_init_4 : decode cX4_init 4 = .ok (.iload 4, 2) := by decide +kernel
theorem dX4_init_6 : decode cX4_init 6 = .ok (.invokespecial 1, 3) := by decide +kernel
theorem dX4_init_9 : decode cX4_init 9 = .ok (.return_, 1) := by decide +kernel
theorem dX4_minutes_0 : decode cX4_minutes 0 = .ok (.iconst 2, 1) := by decide +kernel
theorem dX4_minutes_1 : decode cX4_minutes 1 = .ok (.aload_n 0, 1) := by decide +kernel
theorem dX4_minutes_2 : decode cX4_minutes 2 = .ok (.getfield 7, 3) := by decide +kernel
theorem dX4_minutes_5 : decode cX4_minutes 5 = .ok (.imul, 1) := by decide +kernel
theorem dX4_minutes_6 : decode cX4_minutes 6 = .ok (.ireturn, 1) := by decide +kernel
theorem dX6_init_0 : decode cX6_init 0 = .ok (.aload_n 0, 1) := by decide +kernel
theorem dX6_init_1 : decode cX6_init 1 = .ok (.invokespecial 1, 3) := by decide +kernel
theorem dX6_init_4 : decode cX6_init 4 = .ok (.aload_n 0, 1) := by decide +kernel
theorem dX6_init_5 : decode cX6_init 5 = .ok (.iload_n 1, 1) := by decide +kernel
theorem dX6_init_6 : decode cX6_init 6 = .ok (.putfield 7, 3) := by decide +kernel
theorem dX6_init_9 : decode cX6_init 9 = .ok (.aload_n 0, 1) := by decide +kernel
theorem dX6_init_10 : decode cX6_init 10 = .ok (.iload_n 2, 1) := by decide +kernel
theorem dX6_init_11 : decode cX6_init 11 = .ok (.putfield 13, 3) := by decide +kernel
theorem dX6_init_14 : decode cX6_init 14 = .ok (.aload_n 0, 1) := by decide +kernel
theorem dX6_init_15 : decode cX6_init 15 = .ok (.iload_n 3, 1) := by decide +kernel
theorem dX6_init_16 : decode cX6_init 16 = .ok (.putfield 16, 3) := by decide +kernel
theorem dX6_init_19 : decode cX6_init 19 = .ok (.aload_n 0, 1) := by decide +kernel
theorem dX6_init_20 : decode cX6_init 20 = .ok (.iload 4, 2) := by decide +kernel
theorem dX6_init_22 : decode cX6_init 22 = .ok (.putfield 19, 3) := by decide +kernel
theorem dX6_init_25 : decode cX6_init 25 = .ok (.return_, 1) := by decide +kernel
theorem dX6_weightFor_0 : decode cX6_weightFor 0 = .ok (.aload_n 0, 1) := by decide +kernel
theorem dX6_weightFor_1 : decode cX6_weightFor 1 = .ok (.getfield 7, 3) := by decide +kernel
theorem dX6_weightFor_4 : decode cX6_weightFor 4 = .ok (.ireturn, 1) := by decide +kernel
theorem dX6_minutes_0 : decode cX6_minutes 0 = .ok (.aload_n 0, 1) := by decide +kernel
theorem dX6_minutes_1 : decode cX6_minutes 1 = .ok (.getfield 13, 3) := by decide +kernel
theorem dX6_minutes_4 : decode cX6_minutes 4 = .ok (.ireturn, 1) := by decide +kernel
theorem dX6_isNeverSo_0 : decode cX6_isNeverSo 0 = .ok (.iconst 0, 1) := by decide +kernel
theorem dX6_isNeverSo_1 : decode cX6_isNeverSo 1 = .ok (.ireturn, 1) := by decide +kernel
theorem dX6_isGuide_0 : decode cX6_isGuide 0 = .ok (.iconst 0, 1) := by decide +kernel
theorem dX6_isGuide_1 : decode cX6_isGuide 1 = .ok (.ireturn, 1) := by decide +kernel
set_option maxRecDepth 20000 in
theorem ggX9_init_X4_init : GoodIn wsX9_init wsX4_init := goodIn_r _ [4, 5, 6, 7, 8, 9, 10, 11, 12, 13, 14, 15, 16, 17, 18, 19, 20, 21, 22, 23, 24, 25, 26, 27, 28, 29, 30, 31, 32, 33, 34, 35, 36, 37, 38, 39] (by decide +kernel) (by decide +kernel)
set_option maxRecDepth 20000 in
theorem gX9_init_X4_init : GoodIn wsX9_init (wsX4_init) := ggX9_init_X4_init
theorem dX9_init_0 : decode cX9_init 0 = .ok (.aload_n 0, 1) := by decide +kernel
theorem dX9_init_1 : decode cX9_init 1 = .ok (.iload_n 1, 1) := by decide +kernel
theorem dX9_init_2 : decode cX9_init 2 = .ok (.iload_n 2, 1) := by decide +kernel
theorem dX9_init_3 : decode cX9_init 3 = .ok (.iload_n 3, 1) := by decide +kernel
theorem dX9_init_4 : decode cX9_init 4 = .ok (.iload 4, 2) := by decide +kernel
theorem dX9_init_6 : decode cX9_init 6 = .ok (.invokespecial 1, 3) := by decide +kernel
theorem dX9_init_9 : decode cX9_init 9 = .ok (.return_, 1) := by decide +kernel
set_option maxRecDepth 20000 in
theorem ggX9_isNeverSo_X10_hasPorterIn : GoodIn wsX9_isNeverSo wsX10_hasPorterIn := goodIn_r _ [3] (by decide +kernel) (by decide +kernel)
set_option maxRecDepth 20000 in
theorem gX9_isNeverSo_X10_hasPorterIn_n7 : GoodIn wsX9_isNeverSo (wsX10_hasPorterIn) := ggX9_isNeverSo_X10_hasPorterIn
theorem dX9_isNeverSo_0 : decode cX9_isNeverSo 0 = .ok (.iload_n 1, 1) := by decide +kernel
theorem dX9_isNeverSo_1 : decode cX9_isNeverSo 1 = .ok (.iconst 1, 1) := by decide +kernel
theorem dX9_isNeverSo_2 : decode cX9_isNeverSo 2 = .ok (.if_icmp .lt 13, 3) := by decide +kernel
theorem dX9_isNeverSo_5 : decode cX9_isNeverSo 5 = .ok (.iload_n 2, 1) := by decide +kernel
theorem dX9_isNeverSo_6 : decode cX9_isNeverSo 6 = .ok (.iload_n 1, 1) := by decide +kernel
theorem dX9_isNeverSo_7 : decode cX9_isNeverSo 7 = .ok (.iconst 1, 1) := by decide +kernel
theorem dX9_isNeverSo_8 : decode cX9_isNeverSo 8 = .ok (.isub, 1) := by decide +kernel
theorem dX9_isNeverSo_9 : decode cX9_isNeverSo 9 = .ok (.invokestatic 7, 3) := by decide +kernel
theorem dX9_isNeverSo_12 : decode cX9_isNeverSo 12 = .ok (.ifCond .ne 7, 3) := by decide +kernel
theorem dX9_isNeverSo_15 : decode cX9_isNeverSo 15 = .ok (.iconst 1, 1) := by decide +kernel
theorem dX9_isNeverSo_16 : decode cX9_isNeverSo 16 = .ok (.goto 4, 3) := by decide +kernel
theorem dX9_isNeverSo_19 : decode cX9_isNeverSo 19 = .ok (.iconst 0, 1) := by decide +kernel
theorem dX9_isNeverSo_20 : decode cX9_isNeverSo 20 = .ok (.ireturn, 1) := by decide +kernel
set_option maxRecDepth 20000 in
theorem ggX1_init_X6_init : GoodIn wsX1_init wsX6_init := goodIn_r _ [20, 21, 2, 3, 22, 23, 24, 25, 40, 41, 42, 43, 44, 45, 46, 47, 48, 49, 50, 51, 52, 53, 54, 55, 36, 37, 38, 39, 56, 57, 58, 59] (by decide +kernel) (by decide +kernel)
set_option maxRecDepth 20000 in
theorem gX1_init_X6_init : GoodIn wsX1_init (wsX6_init) := ggX1_init_X6_init
theorem dX1_init_0 : decode cX1_init 0 = .ok (.aload_n 0, 1) := by decide +kernel
theorem dX1_init_1 : decode cX1_init 1 = .ok (.invokespecial 3, 3) := by decide +kernel
theorem dX1_init_4 : decode cX1_init 4 = .ok (.aload_n 0, 1) := by decide +kernel
theorem dX1_init_5 : decode cX1_init 5 = .ok (.bipush 6, 2) := by decide +kernel
theorem dX1_init_7 : decode cX1_init 7 = .ok (.anewarray 9, 3) := by decide +kernel
theorem dX1_init_10 : decode cX1_init 10 = .ok (.putfield 11, 3) := by decide +kernel
theorem dX1_init_13 : decode cX1_init 13 = .ok (.aload_n 0, 1) := by decide +kernel
theorem dX1_init_14 : decode cX1_init 14 = .ok (.iconst 4, 1) := by decide +kernel
theorem dX1_init_15 : decode cX1_init 15 = .ok (.newarray .int, 2) := by decide +kernel
theorem dX1_init_17 : decode cX1_init 17 = .ok (.putfield 17, 3) := by decide +kernel
theorem dX1_init_20 : decode cX1_init 20 = .ok (.aload_n 0, 1) := by decide +kernel
theorem dX1_init_21 : decode cX1_init 21 = .ok (.bipush 20, 2) := by decide +kernel
theorem dX1_init_23 : decode cX1_init 23 = .ok (.newarray .int, 2) := by decide +kernel
theorem dX1_init_25 : decode cX1_init 25 = .ok (.putfield 21, 3) := by decide +kernel
theorem dX1_init_28 : decode cX1_init 28 = .ok (.aload_n 0, 1) := by decide +kernel
theorem dX1_init_29 : decode cX1_init 29 = .ok (.bipush 20, 2) := by decide +kernel
theorem dX1_init_31 : decode cX1_init 31 = .ok (.newarray .int, 2) := by decide +kernel
theorem dX1_init_33 : decode cX1_init 33 = .ok (.putfield 24, 3) := by decide +kernel
theorem dX1_init_36 : decode cX1_init 36 = .ok (.aload_n 0, 1) := by decide +kernel
theorem dX1_init_37 : decode cX1_init 37 = .ok (.sipush 200, 3) := by decide +kernel
theorem dX1_init_40 : decode cX1_init 40 = .ok (.newarray .int, 2) := by decide +kernel
theorem dX1_init_42 : decode cX1_init 42 = .ok (.putfield 27, 3) := by decide +kernel
theorem dX1_init_45 : decode cX1_init 45 = .ok (.aload_n 0, 1) := by decide +kernel
theorem dX1_init_46 : decode cX1_init 46 = .ok (.iconst 5, 1) := by decide +kernel
theorem dX1_init_47 : decode cX1_init 47 = .ok (.newarray .int, 2) := by decide +kernel
theorem dX1_init_49 : decode cX1_init 49 = .ok (.putfield 30, 3) := by decide +kernel
theorem dX1_init_52 : decode cX1_init 52 = .ok (.new 9, 3) := by decide +kernel
theorem dX1_init_55 : decode cX1_init 55 = .ok (.dup, 1) := by decide +kernel
theorem dX1_init_56 : decode cX1_init 56 = .ok (.iconst 1, 1) := by decide +kernel
theorem dX1_init_57 : decode cX1_init 57 = .ok (.iconst 1, 1) := by decide +kernel
theorem dX1_init_58 : decode cX1_init 58 = .ok (.iconst 0, 1) := by decide +kernel
theorem dX1_init_59 : decode cX1_init 59 = .ok (.iconst 0, 1) := by decide +kernel
theorem dX1_init_60 : decode cX1_init 60 = .ok (.invokespecial 33, 3) := by decide +kernel
theorem dX1_init_63 : decode cX1_init 63 = .ok (.astore_n 1, 1) := by decide +kernel
theorem dX1_init_64 : decode cX1_init 64 = .ok (.iconst 0, 1) := by decide +kernel
theorem dX1_init_65 : decode cX1_init 65 = .ok (.istore_n 2, 1) := by decide +kernel
theorem dX1_init_66 : decode cX1_init 66 = .ok (.iload_n 2, 1) := by decide +kernel
theorem dX1_init_67 : decode cX1_init 67 = .ok (.bipush 6, 2) := by decide +kernel
theorem dX1_init_69 : decode cX1_init 69 = .ok (.if_icmp .ge 16, 3) := by decide +kernel
theorem dX1_init_72 : decode cX1_init 72 = .ok (.aload_n 0, 1) := by decide +kernel
theorem dX1_init_73 : decode cX1_init 73 = .ok (.getfield 11, 3) := by decide +kernel
theorem dX1_init_76 : decode cX1_init 76 = .ok (.iload_n 2, 1) := by decide +kernel
theorem dX1_init_77 : decode cX1_init 77 = .ok (.aload_n 1, 1) := by decide +kernel
theorem dX1_init_78 : decode cX1_init 78 = .ok (.aastore, 1) := by decide +kernel
theorem dX1_init_79 : decode cX1_init 79 = .ok (.iinc 2 1, 3) := by decide +kernel
theorem dX1_init_82 : decode cX1_init 82 = .ok (.goto (-16), 3) := by decide +kernel
theorem dX1_init_85 : decode cX1_init 85 = .ok (.getstatic 36, 3) := by decide +kernel
theorem dX1_init_88 : decode cX1_init 88 = .ok (.iconst 0, 1) := by decide +kernel
theorem dX1_init_89 : decode cX1_init 89 = .ok (.aload_n 0, 1) := by decide +kernel
theorem dX1_init_90 : decode cX1_init 90 = .ok (.getfield 17, 3) := by decide +kernel
theorem dX1_init_93 : decode cX1_init 93 = .ok (.iconst 0, 1) := by decide +kernel
theorem dX1_init_94 : decode cX1_init 94 = .ok (.iconst 4, 1) := by decide +kernel
theorem dX1_init_95 : decode cX1_init 95 = .ok (.invokestatic 39, 3) := by decide +kernel
theorem dX1_init_98 : decode cX1_init 98 = .ok (.return_, 1) := by decide +kernel
set_option maxRecDepth 20000 in
theorem ggX1_copy_X1_takeDay : GoodIn wsX1_copy wsX1_takeDay := goodIn_r _ [13, 14, 15, 2, 3, 4, 5, 16, 17, 18, 19, 20, 21, 22, 23, 24, 25, 26, 27, 28, 29] (by decide +kernel) (by decide +kernel)
set_option maxRecDepth 20000 in
theorem gX1_copy_X1_takeDay : GoodIn wsX1_copy (wsV RX1 45 RX1 yX1_takeDay wsX1_takeDay) := goodIn_app (goodIn_of _ (by decide +kernel)) ggX1_copy_X1_takeDay
theorem dX1_copy_0 : decode cX1_copy 0 = .ok (.aload_n 0, 1) := by decide +kernel
theorem dX1_copy_1 : decode cX1_copy 1 = .ok (.aload_n 1, 1) := by decide +kernel
theorem dX1_copy_2 : decode cX1_copy 2 = .ok (.invokevirtual 45, 3) := by decide +kernel
theorem dX1_copy_5 : decode cX1_copy 5 = .ok (.aload_n 1, 1) := by decide +kernel
theorem dX1_copy_6 : decode cX1_copy 6 = .ok (.getfield 27, 3) := by decide +kernel
theorem dX1_copy_9 : decode cX1_copy 9 = .ok (.iconst 0, 1) := by decide +kernel
theorem dX1_copy_10 : decode cX1_copy 10 = .ok (.aload_n 0, 1) := by decide +kernel
theorem dX1_copy_11 : decode cX1_copy 11 = .ok (.getfield 27, 3) := by decide +kernel
theorem dX1_copy_14 : decode cX1_copy 14 = .ok (.iconst 0, 1) := by decide +kernel
theorem dX1_copy_15 : decode cX1_copy 15 = .ok (.sipush 200, 3) := by decide +kernel
theorem dX1_copy_18 : decode cX1_copy 18 = .ok (.invokestatic 39, 3) := by decide +kernel
theorem dX1_copy_21 : decode cX1_copy 21 = .ok (.aload_n 1, 1) := by decide +kernel
theorem dX1_copy_22 : decode cX1_copy 22 = .ok (.getfield 30, 3) := by decide +kernel
theorem dX1_copy_25 : decode cX1_copy 25 = .ok (.iconst 0, 1) := by decide +kernel
theorem dX1_copy_26 : decode cX1_copy 26 = .ok (.aload_n 0, 1) := by decide +kernel
theorem dX1_copy_27 : decode cX1_copy 27 = .ok (.getfield 30, 3) := by decide +kernel
theorem dX1_copy_30 : decode cX1_copy 30 = .ok (.iconst 0, 1) := by decide +kernel
theorem dX1_copy_31 : decode cX1_copy 31 = .ok (.iconst 5, 1) := by decide +kernel
theorem dX1_copy_32 : decode cX1_copy 32 = .ok (.invokestatic 39, 3) := by decide +kernel
theorem dX1_copy_35 : decode cX1_copy 35 = .ok (.aload_n 0, 1) := by decide +kernel
theorem dX1_copy_36 : decode cX1_copy 36 = .ok (.aload_n 1, 1) := by decide +kernel
theorem dX1_copy_37 : decode cX1_copy 37 = .ok (.getfield 49, 3) := by decide +kernel
theorem dX1_copy_40 : decode cX1_copy 40 = .ok (.putfield 49, 3) := by decide +kernel
theorem dX1_copy_43 : decode cX1_copy 43 = .ok (.aload_n 0, 1) := by decide +kernel
theorem dX1_copy_44 : decode cX1_copy 44 = .ok (.aload_n 1, 1) := by decide +kernel
theorem dX1_copy_45 : decode cX1_copy 45 = .ok (.getfield 53, 3) := by decide +kernel
theorem dX1_copy_48 : decode cX1_copy 48 = .ok (.putfield 53, 3) := by decide +kernel
theorem dX1_copy_51 : decode cX1_copy 51 = .ok (.return_, 1) := by decide +kernel
theorem dX1_takeDay_0 : decode cX1_takeDay 0 = .ok (.iconst 0, 1) := by decide +kernel
theorem dX1_takeDay_1 : decode cX1_takeDay 1 = .ok (.istore_n 2, 1) := by decide +kernel
theorem dX1_takeDay_2 : decode cX1_takeDay 2 = .ok (.iload_n 2, 1) := by decide +kernel
theorem dX1_takeDay_3 : decode cX1_takeDay 3 = .ok (.bipush 6, 2) := by decide +kernel
theorem dX1_takeDay_5 : decode cX1_takeDay 5 = .ok (.if_icmp .ge 21, 3) := by decide +kernel
theorem dX1_takeDay_8 : decode cX1_takeDay 8 = .ok (.aload_n 0, 1) := by decide +kernel
theorem dX1_takeDay_9 : decode cX1_takeDay 9 = .ok (.getfield 11, 3) := by decide +kernel
theorem dX1_takeDay_12 : decode cX1_takeDay 12 = .ok (.iload_n 2, 1) := by decide +kernel
theorem dX1_takeDay_13 : decode cX1_takeDay 13 = .ok (.aload_n 1, 1) := by decide +kernel
theorem dX1_takeDay_14 : decode cX1_takeDay 14 = .ok (.getfield 11, 3) := by decide +kernel
theorem dX1_takeDay_17 : decode cX1_takeDay 17 = .ok (.iload_n 2, 1) := by decide +kernel
theorem dX1_takeDay_18 : decode cX1_takeDay 18 = .ok (.aaload, 1) := by decide +kernel
theorem dX1_takeDay_19 : decode cX1_takeDay 19 = .ok (.aastore, 1) := by decide +kernel
theorem dX1_takeDay_20 : decode cX1_takeDay 20 = .ok (.iinc 2 1, 3) := by decide +kernel
theorem dX1_takeDay_23 : decode cX1_takeDay 23 = .ok (.goto (-21), 3) := by decide +kernel
theorem dX1_takeDay_26 : decode cX1_takeDay 26 = .ok (.aload_n 1, 1) := by decide +kernel
theorem dX1_takeDay_27 : decode cX1_takeDay 27 = .ok (.getfield 17, 3) := by decide +kernel
theorem dX1_takeDay_30 : decode cX1_takeDay 30 = .ok (.iconst 0, 1) := by decide +kernel
theorem dX1_takeDay_31 : decode cX1_takeDay 31 = .ok (.aload_n 0, 1) := by decide +kernel
theorem dX1_takeDay_32 : decode cX1_takeDay 32 = .ok (.getfield 17, 3) := by decide +kernel
theorem dX1_takeDay_35 : decode cX1_takeDay 35 = .ok (.iconst 0, 1) := by decide +kernel
theorem dX1_takeDay_36 : decode cX1_takeDay 36 = .ok (.iconst 4, 1) := by decide +kernel
theorem dX1_takeDay_37 : decode cX1_takeDay 37 = .ok (.invokestatic 39, 3) := by decide +kernel
theorem dX1_takeDay_40 : decode cX1_takeDay 40 = .ok (.aload_n 1, 1) := by decide +kernel
theorem dX1_takeDay_41 : decode cX1_takeDay 41 = .ok (.getfield 21, 3) := by decide +kernel
theorem dX1_takeDay_44 : decode cX1_takeDay 44 = .ok (.iconst 0, 1) := by decide +kernel
theorem dX1_takeDay_45 : decode cX1_takeDay 45 = .ok (.aload_n 0, 1) := by decide +kernel
theorem dX1_takeDay_46 : decode cX1_takeDay 46 = .ok (.getfield 21, 3) := by decide +kernel
theorem dX1_takeDay_49 : decode cX1_takeDay 49 = .ok (.iconst 0, 1) := by decide +kernel
theorem dX1_takeDay_50 : decode cX1_takeDay 50 = .ok (.bipush 20, 2) := by decide +kernel
theorem dX1_takeDay_52 : decode cX1_takeDay 52 = .ok (.invokestatic 39, 3) := by decide +kernel
theorem dX1_takeDay_55 : decode cX1_takeDay 55 = .ok (.aload_n 1, 1) := by decide +kernel
theorem dX1_takeDay_56 : decode cX1_takeDay 56 = .ok (.getfield 24, 3) := by decide +kernel
theorem dX1_takeDay_59 : decode cX1_takeDay 59 = .ok (.iconst 0, 1) := by decide +kernel
theorem dX1_takeDay_60 : decode cX1_takeDay 60 = .ok (.aload_n 0, 1) := by decide +kernel
theorem dX1_takeDay_61 : decode cX1_takeDay 61 = .ok (.getfield 24, 3) := by decide +kernel
theorem dX1_takeDay_64 : decode cX1_takeDay 64 = .ok (.iconst 0, 1) := by decide +kernel
theorem dX1_takeDay_65 : decode cX1_takeDay 65 = .ok (.bipush 20, 2) := by decide +kernel
theorem dX1_takeDay_67 : decode cX1_takeDay 67 = .ok (.invokestatic 39, 3) := by decide +kernel
theorem dX1_takeDay_70 : decode cX1_takeDay 70 = .ok (.aload_n 0, 1) := by decide +kernel
theorem dX1_takeDay_71 : decode cX1_takeDay 71 = .ok (.aload_n 1, 1) := by decide +kernel
theorem dX1_takeDay_72 : decode cX1_takeDay 72 = .ok (.getfield 56, 3) := by decide +kernel
theorem dX1_takeDay_75 : decode cX1_takeDay 75 = .ok (.putfield 56, 3) := by decide +kernel
theorem dX1_takeDay_78 : decode cX1_takeDay 78 = .ok (.aload_n 0, 1) := by decide +kernel
theorem dX1_takeDay_79 : decode cX1_takeDay 79 = .ok (.aload_n 1, 1) := by decide +kernel
theorem dX1_takeDay_80 : decode cX1_takeDay 80 = .ok (.getfield 59, 3) := by decide +kernel
theorem dX1_takeDay_83 : decode cX1_takeDay 83 = .ok (.putfield 59, 3) := by decide +kernel
theorem dX1_takeDay_86 : decode cX1_takeDay 86 = .ok (.return_, 1) := by decide +kernel
theorem dX1_forgetDay_0 : decode cX1_forgetDay 0 = .ok (.aload_n 0, 1) := by decide +kernel
theorem dX1_forgetDay_1 : decode cX1_forgetDay 1 = .ok (.iconst 0, 1) := by decide +kernel
theorem dX1_forgetDay_2 : decode cX1_forgetDay 2 = .ok (.putfield 56, 3) := by decide +kernel
theorem dX1_forgetDay_5 : decode cX1_forgetDay 5 = .ok (.aload_n 0, 1) := by decide +kernel
theorem dX1_forgetDay_6 : decode cX1_forgetDay 6 = .ok (.iconst 0, 1) := by decide +kernel
theorem dX1_forgetDay_7 : decode cX1_forgetDay 7 = .ok (.putfield 59, 3) := by decide +kernel
theorem dX1_forgetDay_10 : decode cX1_forgetDay 10 = .ok (.getstatic 36, 3) := by decide +kernel
theorem dX1_forgetDay_13 : decode cX1_forgetDay 13 = .ok (.iconst 0, 1) := by decide +kernel
theorem dX1_forgetDay_14 : decode cX1_forgetDay 14 = .ok (.aload_n 0, 1) := by decide +kernel
theorem dX1_forgetDay_15 : decode cX1_forgetDay 15 = .ok (.getfield 17, 3) := by decide +kernel
theorem dX1_forgetDay_18 : decode cX1_forgetDay 18 = .ok (.iconst 0, 1) := by decide +kernel
theorem dX1_forgetDay_19 : decode cX1_forgetDay 19 = .ok (.iconst 4, 1) := by decide +kernel
theorem dX1_forgetDay_20 : decode cX1_forgetDay 20 = .ok (.invokestatic 39, 3) := by decide +kernel
theorem dX1_forgetDay_23 : decode cX1_forgetDay 23 = .ok (.return_, 1) := by decide +kernel
theorem dX1_addPorter_0 : decode cX1_addPorter 0 = .ok (.aload_n 0, 1) := by decide +kernel
theorem dX1_addPorter_1 : decode cX1_addPorter 1 = .ok (.getfield 56, 3) := by decide +kernel
theorem dX1_addPorter_4 : decode cX1_addPorter 4 = .ok (.bipush 6, 2) := by decide +kernel
theorem dX1_addPorter_6 : decode cX1_addPorter 6 = .ok (.if_icmp .ge 23, 3) := by decide +kernel
theorem dX1_addPorter_9 : decode cX1_addPorter 9 = .ok (.aload_n 0, 1) := by decide +kernel
theorem dX1_addPorter_10 : decode cX1_addPorter 10 = .ok (.getfield 11, 3) := by decide +kernel
theorem dX1_addPorter_13 : decode cX1_addPorter 13 = .ok (.aload_n 0, 1) := by decide +kernel
theorem dX1_addPorter_14 : decode cX1_addPorter 14 = .ok (.getfield 56, 3) := by decide +kernel
theorem dX1_addPorter_17 : decode cX1_addPorter 17 = .ok (.aload_n 1, 1) := by decide +kernel
theorem dX1_addPorter_18 : decode cX1_addPorter 18 = .ok (.aastore, 1) := by decide +kernel
theorem dX1_addPorter_19 : decode cX1_addPorter 19 = .ok (.aload_n 0, 1) := by decide +kernel
theorem dX1_addPorter_20 : decode cX1_addPorter 20 = .ok (.dup, 1) := by decide +kernel
theorem dX1_addPorter_21 : decode cX1_addPorter 21 = .ok (.getfield 56, 3) := by decide +kernel
theorem dX1_addPorter_24 : decode cX1_addPorter 24 = .ok (.iconst 1, 1) := by decide +kernel
theorem dX1_addPorter_25 : decode cX1_addPorter 25 = .ok (.iadd, 1) := by decide +kernel
theorem dX1_addPorter_26 : decode cX1_addPorter 26 = .ok (.putfield 56, 3) := by decide +kernel
theorem dX1_addPorter_29 : decode cX1_addPorter 29 = .ok (.return_, 1) := by decide +kernel
theorem dX1_addGo_0 : decode cX1_addGo 0 = .ok (.aload_n 0, 1) := by decide +kernel
theorem dX1_addGo_1 : decode cX1_addGo 1 = .ok (.getfield 59, 3) := by decide +kernel
theorem dX1_addGo_4 : decode cX1_addGo 4 = .ok (.bipush 20, 2) := by decide +kernel
theorem dX1_addGo_6 : decode cX1_addGo 6 = .ok (.if_icmp .ge 33, 3) := by decide +kernel
theorem dX1_addGo_9 : decode cX1_addGo 9 = .ok (.aload_n 0, 1) := by decide +kernel
theorem dX1_addGo_10 : decode cX1_addGo 10 = .ok (.getfield 21, 3) := by decide +kernel
theorem dX1_addGo_13 : decode cX1_addGo 13 = .ok (.aload_n 0, 1) := by decide +kernel
theorem dX1_addGo_14 : decode cX1_addGo 14 = .ok (.getfield 59, 3) := by decide +kernel
theorem dX1_addGo_17 : decode cX1_addGo 17 = .ok (.iload_n 1, 1) := by decide +kernel
theorem dX1_addGo_18 : decode cX1_addGo 18 = .ok (.iastore, 1) := by decide +kernel
theorem dX1_addGo_19 : decode cX1_addGo 19 = .ok (.aload_n 0, 1) := by decide +kernel
theorem dX1_addGo_20 : decode cX1_addGo 20 = .ok (.getfield 24, 3) := by decide +kernel
theorem dX1_addGo_23 : decode cX1_addGo 23 = .ok (.aload_n 0, 1) := by decide +kernel
theorem dX1_addGo_24 : decode cX1_addGo 24 = .ok (.getfield 59, 3) := by decide +kernel
theorem dX1_addGo_27 : decode cX1_addGo 27 = .ok (.iload_n 2, 1) := by decide +kernel
theorem dX1_addGo_28 : decode cX1_addGo 28 = .ok (.iastore, 1) := by decide +kernel
theorem dX1_addGo_29 : decode cX1_addGo 29 = .ok (.aload_n 0, 1) := by decide +kernel
theorem dX1_addGo_30 : decode cX1_addGo 30 = .ok (.dup, 1) := by decide +kernel
theorem dX1_addGo_31 : decode cX1_addGo 31 = .ok (.getfield 59, 3) := by decide +kernel
theorem dX1_addGo_34 : decode cX1_addGo 34 = .ok (.iconst 1, 1) := by decide +kernel
theorem dX1_addGo_35 : decode cX1_addGo 35 = .ok (.iadd, 1) := by decide +kernel
theorem dX1_addGo_36 : decode cX1_addGo 36 = .ok (.putfield 59, 3) := by decide +kernel
theorem dX1_addGo_39 : decode cX1_addGo 39 = .ok (.return_, 1) := by decide +kernel
theorem dX1_addByte_0 : decode cX1_addByte 0 = .ok (.aload_n 0, 1) := by decide +kernel
theorem dX1_addByte_1 : decode cX1_addByte 1 = .ok (.getfield 49, 3) := by decide +kernel
theorem dX1_addByte_4 : decode cX1_addByte 4 = .ok (.sipush 200, 3) := by decide +kernel
theorem dX1_addByte_7 : decode cX1_addByte 7 = .ok (.if_icmp .ge 23, 3) := by decide +kernel
theorem dX1_addByte_10 : decode cX1_addByte 10 = .ok (.aload_n 0, 1) := by decide +kernel
theorem dX1_addByte_11 : decode cX1_addByte 11 = .ok (.getfield 27, 3) := by decide +kernel
theorem dX1_addByte_14 : decode cX1_addByte 14 = .ok (.aload_n 0, 1) := by decide +kernel
theorem dX1_addByte_15 : decode cX1_addByte 15 = .ok (.getfield 49, 3) := by decide +kernel
theorem dX1_addByte_18 : decode cX1_addByte 18 = .ok (.iload_n 1, 1) := by decide +kernel
theorem dX1_addByte_19 : decode cX1_addByte 19 = .ok (.iastore, 1) := by decide +kernel
theorem dX1_addByte_20 : decode cX1_addByte 20 = .ok (.aload_n 0, 1) := by decide +kernel
theorem dX1_addByte_21 : decode cX1_addByte 21 = .ok (.dup, 1) := by decide +kernel
theorem dX1_addByte_22 : decode cX1_addByte 22 = .ok (.getfield 49, 3) := by decide +kernel
theorem dX1_addByte_25 : decode cX1_addByte 25 = .ok (.iconst 1, 1) := by decide +kernel
theorem dX1_addByte_26 : decode cX1_addByte 26 = .ok (.iadd, 1) := by decide +kernel
theorem dX1_addByte_27 : decode cX1_addByte 27 = .ok (.putfield 49, 3) := by decide +kernel
theorem dX1_addByte_30 : decode cX1_addByte 30 = .ok (.return_, 1) := by decide +kernel
theorem dX1_addLoad_0 : decode cX1_addLoad 0 = .ok (.aload_n 0, 1) := by decide +kernel
theorem dX1_addLoad_1 : decode cX1_addLoad 1 = .ok (.getfield 53, 3) := by decide +kernel
theorem dX1_addLoad_4 : decode cX1_addLoad 4 = .ok (.iconst 5, 1) := by decide +kernel
theorem dX1_addLoad_5 : decode cX1_addLoad 5 = .ok (.if_icmp .ge 23, 3) := by decide +kernel
theorem dX1_addLoad_8 : decode cX1_addLoad 8 = .ok (.aload_n 0, 1) := by decide +kernel
theorem dX1_addLoad_9 : decode cX1_addLoad 9 = .ok (.getfield 30, 3) := by decide +kernel
theorem dX1_addLoad_12 : decode cX1_addLoad 12 = .ok (.aload_n 0, 1) := by decide +kernel
theorem dX1_addLoad_13 : decode cX1_addLoad 13 = .ok (.getfield 53, 3) := by decide +kernel
theorem dX1_addLoad_16 : decode cX1_addLoad 16 = .ok (.iload_n 1, 1) := by decide +kernel
theorem dX1_addLoad_17 : decode cX1_addLoad 17 = .ok (.iastore, 1) := by decide +kernel
theorem dX1_addLoad_18 : decode cX1_addLoad 18 = .ok (.aload_n 0, 1) := by decide +kernel
theorem dX1_addLoad_19 : decode cX1_addLoad 19 = .ok (.dup, 1) := by decide +kernel
theorem dX1_addLoad_20 : decode cX1_addLoad 20 = .ok (.getfield 53, 3) := by decide +kernel
theorem dX1_addLoad_23 : decode cX1_addLoad 23 = .ok (.iconst 1, 1) := by decide +kernel
theorem dX1_addLoad_24 : decode cX1_addLoad 24 = .ok (.iadd, 1) := by decide +kernel
theorem dX1_addLoad_25 : decode cX1_addLoad 25 = .ok (.putfield 53, 3) := by decide +kernel
theorem dX1_addLoad_28 : decode cX1_addLoad 28 = .ok (.return_, 1) := by decide +kernel
theorem dX1_hasPorter_0 : decode cX1_hasPorter 0 = .ok (.iload_n 1, 1) := by decide +kernel
theorem dX1_hasPorter_1 : decode cX1_hasPorter 1 = .ok (.ifCond .lt 15, 3) := by decide +kernel
theorem dX1_hasPorter_4 : decode cX1_hasPorter 4 = .ok (.iload_n 1, 1) := by decide +kernel
theorem dX1_hasPorter_5 : decode cX1_hasPorter 5 = .ok (.aload_n 0, 1) := by decide +kernel
theorem dX1_hasPorter_6 : decode cX1_hasPorter 6 = .ok (.getfield 56, 3) := by decide +kernel
theorem dX1_hasPorter_9 : decode cX1_hasPorter 9 = .ok (.if_icmp .ge 7, 3) := by decide +kernel
theorem dX1_hasPorter_12 : decode cX1_hasPorter 12 = .ok (.iconst 1, 1) := by decide +kernel
theorem dX1_hasPorter_13 : decode cX1_hasPorter 13 = .ok (.goto 4, 3) := by decide +kernel
theorem dX1_hasPorter_16 : decode cX1_hasPorter 16 = .ok (.iconst 0, 1) := by decide +kernel
theorem dX1_hasPorter_17 : decode cX1_hasPorter 17 = .ok (.ireturn, 1) := by decide +kernel
theorem dX1_hasSet_0 : decode cX1_hasSet 0 = .ok (.iload_n 1, 1) := by decide +kernel
theorem dX1_hasSet_1 : decode cX1_hasSet 1 = .ok (.ifCond .lt 17, 3) := by decide +kernel
theorem dX1_hasSet_4 : decode cX1_hasSet 4 = .ok (.iload_n 1, 1) := by decide +kernel
theorem dX1_hasSet_5 : decode cX1_hasSet 5 = .ok (.iconst 1, 1) := by decide +kernel
theorem dX1_hasSet_6 : decode cX1_hasSet 6 = .ok (.aload_n 0, 1) := by decide +kernel
theorem dX1_hasSet_7 : decode cX1_hasSet 7 = .ok (.getfield 56, 3) := by decide +kernel
theorem dX1_hasSet_10 : decode cX1_hasSet 10 = .ok (.ishl, 1) := by decide +kernel
theorem dX1_hasSet_11 : decode cX1_hasSet 11 = .ok (.if_icmp .ge 7, 3) := by decide +kernel
theorem dX1_hasSet_14 : decode cX1_hasSet 14 = .ok (.iconst 1, 1) := by decide +kernel
theorem dX1_hasSet_15 : decode cX1_hasSet 15 = .ok (.goto 4, 3) := by decide +kernel
theorem dX1_hasSet_18 : decode cX1_hasSet 18 = .ok (.iconst 0, 1) := by decide +kernel
theorem dX1_hasSet_19 : decode cX1_hasSet 19 = .ok (.ireturn, 1) := by decide +kernel
theorem dX1_isNight_0 : decode cX1_isNight 0 = .ok (.iload_n 1, 1) := by decide +kernel
theorem dX1_isNight_1 : decode cX1_isNight 1 = .ok (.aload_n 0, 1) := by decide +kernel
theorem dX1_isNight_2 : decode cX1_isNight 2 = .ok (.getfield 17, 3) := by decide +kernel
theorem dX1_isNight_5 : decode cX1_isNight 5 = .ok (.iconst 3, 1) := by decide +kernel
theorem dX1_isNight_6 : decode cX1_isNight 6 = .ok (.iaload, 1) := by decide +kernel
theorem dX1_isNight_7 : decode cX1_isNight 7 = .ok (.if_icmp .lt 7, 3) := by decide +kernel
theorem dX1_isNight_10 : decode cX1_isNight 10 = .ok (.iconst 1, 1) := by decide +kernel
theorem dX1_isNight_11 : decode cX1_isNight 11 = .ok (.goto 4, 3) := by decide +kernel
theorem dX1_isNight_14 : decode cX1_isNight 14 = .ok (.iconst 0, 1) := by decide +kernel
theorem dX1_isNight_15 : decode cX1_isNight 15 = .ok (.ireturn, 1) := by decide +kernel
set_option maxRecDepth 20000 in
theorem ggX1_weightOf_X3_weightFor : GoodIn wsX1_weightOf wsX3_weightFor := goodIn_r _ [9, 10, 11, 32, 33, 34, 35, 36, 37, 38, 39, 40, 41, 42, 43, 44, 45, 46, 47, 48, 49, 50, 51, 52, 53, 54, 55] (by decide +kernel) (by decide +kernel)
set_option maxRecDepth 20000 in
theorem gX1_weightOf_X3_weightFor_u62X0 : GoodIn wsX1_weightOf (va_wsO RX1 62 RX0 "OnlyTwo$Plain" ⟨"OnlyTwo$Plain", "weightFor", "(ZI)I"⟩ yX3_weightFor wsX3_weightFor) := goodIn_app (goodIn_of _ (by decide +kernel)) ggX1_weightOf_X3_weightFor
set_option maxRecDepth 20000 in
theorem ggX1_weightOf_X6_weightFor : GoodIn wsX1_weightOf wsX6_weightFor := goodIn_r _ [12, 16, 32, 33, 34, 35, 36, 37, 38, 39, 40, 41, 42, 43, 44, 45, 46, 47, 48, 49, 50, 51, 52, 53, 54, 55] (by decide +kernel) (by decide +kernel)
set_option maxRecDepth 20000 in
theorem gX1_weightOf_X6_weightFor_u62X2 : GoodIn wsX1_weightOf (va_wsU RX1 62 RX2 "OnlyTwo$Plain" ⟨"OnlyTwo$Plain", "weightFor", "(ZI)I"⟩ yX6_weightFor wsX6_weightFor) := goodIn_app (goodIn_of _ (by decide +kernel)) ggX1_weightOf_X6_weightFor
set_option maxRecDepth 20000 in
theorem gX1_weightOf_X3_weightFor_u62X3 : GoodIn wsX1_weightOf (va_wsO RX1 62 RX3 "OnlyTwo$Plain" ⟨"OnlyTwo$Plain", "weightFor", "(ZI)I"⟩ yX3_weightFor wsX3_weightFor) := goodIn_app (goodIn_of _ (by decide +kernel)) ggX1_weightOf_X3_weightFor
set_option maxRecDepth 20000 in
theorem gX1_weightOf_X6_weightFor_u62X4 : GoodIn wsX1_weightOf (va_wsU RX1 62 RX4 "OnlyTwo$Plain" ⟨"OnlyTwo$Plain", "weightFor", "(ZI)I"⟩ yX6_weightFor wsX6_weightFor) := goodIn_app (goodIn_of _ (by decide +kernel)) ggX1_weightOf_X6_weightFor
set_option maxRecDepth 20000 in
theorem gX1_weightOf_X6_weightFor : GoodIn wsX1_weightOf (wsV RX1 62 RX6 yX6_weightFor wsX6_weightFor) := goodIn_app (goodIn_of _ (by decide +kernel)) ggX1_weightOf_X6_weightFor
set_option maxRecDepth 20000 in
theorem gX1_weightOf_X6_weightFor_u62X9 : GoodIn wsX1_weightOf (va_wsU RX1 62 RX9 "OnlyTwo$Plain" ⟨"OnlyTwo$Plain", "weightFor", "(ZI)I"⟩ yX6_weightFor wsX6_weightFor) := goodIn_app (goodIn_of _ (by decide +kernel)) ggX1_weightOf_X6_weightFor
theorem dX1_weightOf_0 : decode cX1_weightOf 0 = .ok (.aload_n 0, 1) := by decide +kernel
theorem dX1_weightOf_1 : decode cX1_weightOf 1 = .ok (.getfield 11, 3) := by decide +kernel
theorem dX1_weightOf_4 : decode cX1_weightOf 4 = .ok (.iload_n 1, 1) := by decide +kernel
theorem dX1_weightOf_5 : decode cX1_weightOf 5 = .ok (.aaload, 1) := by decide +kernel
theorem dX1_weightOf_6 : decode cX1_weightOf 6 = .ok (.iload_n 2, 1) := by decide +kernel
theorem dX1_weightOf_7 : decode cX1_weightOf 7 = .ok (.aload_n 0, 1) := by decide +kernel
theorem dX1_weightOf_8 : decode cX1_weightOf 8 = .ok (.getfield 17, 3) := by decide +kernel
theorem dX1_weightOf_11 : decode cX1_weightOf 11 = .ok (.iconst 1, 1) := by decide +kernel
theorem dX1_weightOf_12 : decode cX1_weightOf 12 = .ok (.iaload, 1) := by decide +kernel
theorem dX1_weightOf_13 : decode cX1_weightOf 13 = .ok (.if_icmp .lt 7, 3) := by decide +kernel
theorem dX1_weightOf_16 : decode cX1_weightOf 16 = .ok (.iconst 1, 1) := by decide +kernel
theorem dX1_weightOf_17 : decode cX1_weightOf 17 = .ok (.goto 4, 3) := by decide +kernel
theorem dX1_weightOf_20 : decode cX1_weightOf 20 = .ok (.iconst 0, 1) := by decide +kernel
theorem dX1_weightOf_21 : decode cX1_weightOf 21 = .ok (.aload_n 0, 1) := by decide +kernel
theorem dX1_weightOf_22 : decode cX1_weightOf 22 = .ok (.getfield 17, 3) := by decide +kernel
theorem dX1_weightOf_25 : decode cX1_weightOf 25 = .ok (.iconst 2, 1) := by decide +kernel
theorem dX1_weightOf_26 : decode cX1_weightOf 26 = .ok (.iaload, 1) := by decide +kernel
theorem dX1_weightOf_27 : decode cX1_weightOf 27 = .ok (.invokevirtual 62, 3) := by decide +kernel
theorem dX1_weightOf_30 : decode cX1_weightOf 30 = .ok (.ireturn, 1) := by decide +kernel
set_option maxRecDepth 20000 in
theorem ggX1_minutesOf_X10_hasPorterIn : GoodIn wsX1_minutesOf wsX10_hasPorterIn := goodIn_r _ [9] (by decide +kernel) (by decide +kernel)
set_option maxRecDepth 20000 in
theorem gX1_minutesOf_X10_hasPorterIn_n66 : GoodIn wsX1_minutesOf (wsX10_hasPorterIn) := ggX1_minutesOf_X10_hasPorterIn
set_option maxRecDepth 20000 in
theorem ggX1_minutesOf_X6_minutes : GoodIn wsX1_minutesOf wsX6_minutes := goodIn_r _ [15, 16, 39, 40, 41, 42, 43, 44, 45, 46, 47, 48, 49, 50, 51, 52, 53, 54, 55, 56, 57, 58, 59, 60, 61, 62] (by decide +kernel) (by decide +kernel)
set_option maxRecDepth 20000 in
theorem gX1_minutesOf_X6_minutes_u70X0 : GoodIn wsX1_minutesOf (va_wsU RX1 70 RX0 "OnlyTwo$Plain" ⟨"OnlyTwo$Plain", "minutes", "()I"⟩ yX6_minutes wsX6_minutes) := goodIn_app (goodIn_of _ (by decide +kernel)) ggX1_minutesOf_X6_minutes
set_option maxRecDepth 20000 in
theorem gX1_minutesOf_X6_minutes_u70X2 : GoodIn wsX1_minutesOf (va_wsU RX1 70 RX2 "OnlyTwo$Plain" ⟨"OnlyTwo$Plain", "minutes", "()I"⟩ yX6_minutes wsX6_minutes) := goodIn_app (goodIn_of _ (by decide +kernel)) ggX1_minutesOf_X6_minutes
set_option maxRecDepth 20000 in
theorem gX1_minutesOf_X6_minutes_u70X3 : GoodIn wsX1_minutesOf (va_wsU RX1 70 RX3 "OnlyTwo$Plain" ⟨"OnlyTwo$Plain", "minutes", "()I"⟩ yX6_minutes wsX6_minutes) := goodIn_app (goodIn_of _ (by decide +kernel)) ggX1_minutesOf_X6_minutes
set_option maxRecDepth 20000 in
theorem ggX1_minutesOf_X4_minutes : GoodIn wsX1_minutesOf wsX4_minutes := goodIn_r _ [23, 24, 25, 39, 40, 41, 42, 43, 44, 45, 46, 47, 48, 49, 50, 51, 52, 53, 54, 55, 56, 57, 58, 59, 60, 61, 62] (by decide +kernel) (by decide +kernel)
set_option maxRecDepth 20000 in
theorem gX1_minutesOf_X4_minutes_u70X4 : GoodIn wsX1_minutesOf (va_wsO RX1 70 RX4 "OnlyTwo$Plain" ⟨"OnlyTwo$Plain", "minutes", "()I"⟩ yX4_minutes wsX4_minutes) := goodIn_app (goodIn_of _ (by decide +kernel)) ggX1_minutesOf_X4_minutes
set_option maxRecDepth 20000 in
theorem gX1_minutesOf_X6_minutes : GoodIn wsX1_minutesOf (wsV RX1 70 RX6 yX6_minutes wsX6_minutes) := goodIn_app (goodIn_of _ (by decide +kernel)) ggX1_minutesOf_X6_minutes
set_option maxRecDepth 20000 in
theorem gX1_minutesOf_X4_minutes_u70X9 : GoodIn wsX1_minutesOf (va_wsO RX1 70 RX9 "OnlyTwo$Plain" ⟨"OnlyTwo$Plain", "minutes", "()I"⟩ yX4_minutes wsX4_minutes) := goodIn_app (goodIn_of _ (by decide +kernel)) ggX1_minutesOf_X4_minutes
theorem dX1_minutesOf_0 : decode cX1_minutesOf 0 = .ok (.iconst 0, 1) := by decide +kernel
theorem dX1_minutesOf_1 : decode cX1_minutesOf 1 = .ok (.istore_n 2, 1) := by decide +kernel
theorem dX1_minutesOf_2 : decode cX1_minutesOf 2 = .ok (.iconst 0, 1) := by decide +kernel
theorem dX1_minutesOf_3 : decode cX1_minutesOf 3 = .ok (.istore_n 3, 1) := by decide +kernel
theorem dX1_minutesOf_4 : decode cX1_minutesOf 4 = .ok (.iload_n 3, 1) := by decide +kernel
theorem dX1_minutesOf_5 : decode cX1_minutesOf 5 = .ok (.aload_n 0, 1) := by decide +kernel
theorem dX1_minutesOf_6 : decode cX1_minutesOf 6 = .ok (.getfield 56, 3) := by decide +kernel
theorem dX1_minutesOf_9 : decode cX1_minutesOf 9 = .ok (.if_icmp .ge 31, 3) := by decide +kernel
theorem dX1_minutesOf_12 : decode cX1_minutesOf 12 = .ok (.iload_n 1, 1) := by decide +kernel
theorem dX1_minutesOf_13 : decode cX1_minutesOf 13 = .ok (.iload_n 3, 1) := by decide +kernel
theorem dX1_minutesOf_14 : decode cX1_minutesOf 14 = .ok (.invokestatic 66, 3) := by decide +kernel
theorem dX1_minutesOf_17 : decode cX1_minutesOf 17 = .ok (.ifCond .eq 17, 3) := by decide +kernel
theorem dX1_minutesOf_20 : decode cX1_minutesOf 20 = .ok (.iload_n 2, 1) := by decide +kernel
theorem dX1_minutesOf_21 : decode cX1_minutesOf 21 = .ok (.aload_n 0, 1) := by decide +kernel
theorem dX1_minutesOf_22 : decode cX1_minutesOf 22 = .ok (.getfield 11, 3) := by decide +kernel
theorem dX1_minutesOf_25 : decode cX1_minutesOf 25 = .ok (.iload_n 3, 1) := by decide +kernel
theorem dX1_minutesOf_26 : decode cX1_minutesOf 26 = .ok (.aaload, 1) := by decide +kernel
theorem dX1_minutesOf_27 : decode cX1_minutesOf 27 = .ok (.invokevirtual 70, 3) := by decide +kernel
theorem dX1_minutesOf_30 : decode cX1_minutesOf 30 = .ok (.invokestatic 74, 3) := by decide +kernel
theorem dX1_minutesOf_33 : decode cX1_minutesOf 33 = .ok (.istore_n 2, 1) := by decide +kernel
theorem dX1_minutesOf_34 : decode cX1_minutesOf 34 = .ok (.iinc 3 1, 3) := by decide +kernel
theorem dX1_minutesOf_37 : decode cX1_minutesOf 37 = .ok (.goto (-33), 3) := by decide +kernel
theorem dX1_minutesOf_40 : decode cX1_minutesOf 40 = .ok (.iload_n 2, 1) := by decide +kernel
theorem dX1_minutesOf_41 : decode cX1_minutesOf 41 = .ok (.ireturn, 1) := by decide +kernel
set_option maxRecDepth 20000 in
theorem ggX1_hireOf_X10_hasPorterIn : GoodIn wsX1_hireOf wsX10_hasPorterIn := goodIn_r _ [6] (by decide +kernel) (by decide +kernel)
set_option maxRecDepth 20000 in
theorem gX1_hireOf_X10_hasPorterIn_n66 : GoodIn wsX1_hireOf (wsX10_hasPorterIn) := ggX1_hireOf_X10_hasPorterIn
theorem dX1_hireOf_0 : decode cX1_hireOf 0 = .ok (.iconst 0, 1) := by decide +kernel
theorem dX1_hireOf_1 : decode cX1_hireOf 1 = .ok (.istore_n 2, 1) := by decide +kernel
theorem dX1_hireOf_2 : decode cX1_hireOf 2 = .ok (.iconst 0, 1) := by decide +kernel
theorem dX1_hireOf_3 : decode cX1_hireOf 3 = .ok (.istore_n 3, 1) := by decide +kernel
theorem dX1_hireOf_4 : decode cX1_hireOf 4 = .ok (.iload_n 3, 1) := by decide +kernel
theorem dX1_hireOf_5 : decode cX1_hireOf 5 = .ok (.aload_n 0, 1) := by decide +kernel
theorem dX1_hireOf_6 : decode cX1_hireOf 6 = .ok (.getfield 56, 3) := by decide +kernel
theorem dX1_hireOf_9 : decode cX1_hireOf 9 = .ok (.if_icmp .ge 29, 3) := by decide +kernel
theorem dX1_hireOf_12 : decode cX1_hireOf 12 = .ok (.iload_n 1, 1) := by decide +kernel
theorem dX1_hireOf_13 : decode cX1_hireOf 13 = .ok (.iload_n 3, 1) := by decide +kernel
theorem dX1_hireOf_14 : decode cX1_hireOf 14 = .ok (.invokestatic 66, 3) := by decide +kernel
theorem dX1_hireOf_17 : decode cX1_hireOf 17 = .ok (.ifCond .eq 15, 3) := by decide +kernel
theorem dX1_hireOf_20 : decode cX1_hireOf 20 = .ok (.iload_n 2, 1) := by decide +kernel
theorem dX1_hireOf_21 : decode cX1_hireOf 21 = .ok (.aload_n 0, 1) := by decide +kernel
theorem dX1_hireOf_22 : decode cX1_hireOf 22 = .ok (.getfield 11, 3) := by decide +kernel
theorem dX1_hireOf_25 : decode cX1_hireOf 25 = .ok (.iload_n 3, 1) := by decide +kernel
theorem dX1_hireOf_26 : decode cX1_hireOf 26 = .ok (.aaload, 1) := by decide +kernel
theorem dX1_hireOf_27 : decode cX1_hireOf 27 = .ok (.getfield 80, 3) := by decide +kernel
theorem dX1_hireOf_30 : decode cX1_hireOf 30 = .ok (.iadd, 1) := by decide +kernel
theorem dX1_hireOf_31 : decode cX1_hireOf 31 = .ok (.istore_n 2, 1) := by decide +kernel
theorem dX1_hireOf_32 : decode cX1_hireOf 32 = .ok (.iinc 3 1, 3) := by decide +kernel
theorem dX1_hireOf_35 : decode cX1_hireOf 35 = .ok (.goto (-31), 3) := by decide +kernel
theorem dX1_hireOf_38 : decode cX1_hireOf 38 = .ok (.iload_n 2, 1) := by decide +kernel
theorem dX1_hireOf_39 : decode cX1_hireOf 39 = .ok (.ireturn, 1) := by decide +kernel
set_option maxRecDepth 20000 in
theorem ggX1_whyNot_J6_bitCount_0f7a4 : GoodIn wsX1_whyNot wsJ6_bitCount_0f7a4 := goodIn_r _ [4, 5, 6, 7] (by decide +kernel) (by decide +kernel)
set_option maxRecDepth 20000 in
theorem gX1_whyNot_J6_bitCount_0f7a4 : GoodIn wsX1_whyNot (va_wsS RX1 83 yJ6_bitCount_0f7a4 wsJ6_bitCount_0f7a4) := goodIn_app (goodIn_of _ (by decide +kernel)) ggX1_whyNot_J6_bitCount_0f7a4
set_option maxRecDepth 20000 in
theorem ggX1_whyNot_X1_hasNeverSo : GoodIn wsX1_whyNot wsX1_hasNeverSo := goodIn_r _ [12, 13, 14, 15, 16, 17, 18, 19, 20, 21, 22, 23, 24, 25, 26, 27, 28, 29, 30, 31, 32, 33, 34, 35, 36, 112, 113, 114, 115, 116, 117, 118, 119, 120, 121] (by decide +kernel) (by decide +kernel)
set_option maxRecDepth 20000 in
theorem gX1_whyNot_X1_hasNeverSo : GoodIn wsX1_whyNot (wsV RX1 89 RX1 yX1_hasNeverSo wsX1_hasNeverSo) := goodIn_app (goodIn_of _ (by decide +kernel)) ggX1_whyNot_X1_hasNeverSo
set_option maxRecDepth 20000 in
theorem ggX1_whyNot_X1_isUnlikeEnough : GoodIn wsX1_whyNot wsX1_isUnlikeEnough := goodIn_r _ [40, 13, 41, 42, 43, 44, 45, 15, 16, 17, 46, 47, 48, 11, 49, 14, 50, 51, 52, 53, 54, 55, 56, 57, 58, 59, 60, 61, 28, 62, 63, 64, 65, 66, 67, 68, 69, 70, 71, 72, 73, 74, 75, 76, 77, 78, 79, 80, 81, 82, 83, 84, 85, 86, 112, 113, 114, 115, 116, 117, 118, 119, 120, 121, 122, 123, 124, 125, 126, 127, 128, 129, 130, 131, 132, 133, 134, 135, 136, 137, 138, 139, 140, 141, 142, 143, 144, 145] (by decide +kernel) (by decide +kernel)
set_option maxRecDepth 20000 in
theorem gX1_whyNot_X1_isUnlikeEnough : GoodIn wsX1_whyNot (wsV RX1 93 RX1 yX1_isUnlikeEnough wsX1_isUnlikeEnough) := goodIn_app (goodIn_of _ (by decide +kernel)) ggX1_whyNot_X1_isUnlikeEnough
set_option maxRecDepth 20000 in
theorem ggX1_whyNot_X1_minutesOf : GoodIn wsX1_whyNot wsX1_minutesOf := goodIn_r _ [90, 13, 14, 91, 92, 43, 93, 15, 16, 17, 94, 95, 96, 97, 28, 98, 99, 100, 101, 102, 103, 104, 105, 106, 107, 108, 109, 110, 111, 112, 113, 114, 115, 116, 117, 118, 119, 120, 121, 122, 123, 124, 125, 126, 127, 128, 129, 130, 131, 132, 133, 134, 135, 136, 137, 138, 139, 140, 141, 142, 143, 144, 145] (by decide +kernel) (by decide +kernel)
set_option maxRecDepth 20000 in
theorem gX1_whyNot_X1_minutesOf : GoodIn wsX1_whyNot (wsV RX1 96 RX1 yX1_minutesOf wsX1_minutesOf) := goodIn_app (goodIn_of _ (by decide +kernel)) ggX1_whyNot_X1_minutesOf
theorem dX1_whyNot_0 : decode cX1_whyNot 0 = .ok (.iload_n 1, 1) := by decide +kernel
theorem dX1_whyNot_1 : decode cX1_whyNot 1 = .ok (.invokestatic 83, 3) := by decide +kernel
theorem dX1_whyNot_4 : decode cX1_whyNot 4 = .ok (.iload_n 3, 1) := by decide +kernel
theorem dX1_whyNot_5 : decode cX1_whyNot 5 = .ok (.ifCond .eq 7, 3) := by decide +kernel
theorem dX1_whyNot_8 : decode cX1_whyNot 8 = .ok (.iconst 1, 1) := by decide +kernel
theorem dX1_whyNot_9 : decode cX1_whyNot 9 = .ok (.goto 4, 3) := by decide +kernel
theorem dX1_whyNot_12 : decode cX1_whyNot 12 = .ok (.iconst 2, 1) := by decide +kernel
theorem dX1_whyNot_13 : decode cX1_whyNot 13 = .ok (.if_icmp .eq 5, 3) := by decide +kernel
theorem dX1_whyNot_16 : decode cX1_whyNot 16 = .ok (.iconst 3, 1) := by decide +kernel
theorem dX1_whyNot_17 : decode cX1_whyNot 17 = .ok (.ireturn, 1) := by decide +kernel
theorem dX1_whyNot_18 : decode cX1_whyNot 18 = .ok (.aload_n 0, 1) := by decide +kernel
theorem dX1_whyNot_19 : decode cX1_whyNot 19 = .ok (.iload_n 1, 1) := by decide +kernel
theorem dX1_whyNot_20 : decode cX1_whyNot 20 = .ok (.iload_n 3, 1) := by decide +kernel
theorem dX1_whyNot_21 : decode cX1_whyNot 21 = .ok (.invokevirtual 89, 3) := by decide +kernel
theorem dX1_whyNot_24 : decode cX1_whyNot 24 = .ok (.ifCond .eq 5, 3) := by decide +kernel
theorem dX1_whyNot_27 : decode cX1_whyNot 27 = .ok (.iconst 4, 1) := by decide +kernel
theorem dX1_whyNot_28 : decode cX1_whyNot 28 = .ok (.ireturn, 1) := by decide +kernel
theorem dX1_whyNot_29 : decode cX1_whyNot 29 = .ok (.iload_n 3, 1) := by decide +kernel
theorem dX1_whyNot_30 : decode cX1_whyNot 30 = .ok (.ifCond .ne 14, 3) := by decide +kernel
theorem dX1_whyNot_33 : decode cX1_whyNot 33 = .ok (.aload_n 0, 1) := by decide +kernel
theorem dX1_whyNot_34 : decode cX1_whyNot 34 = .ok (.iload_n 1, 1) := by decide +kernel
theorem dX1_whyNot_35 : decode cX1_whyNot 35 = .ok (.iload_n 2, 1) := by decide +kernel
theorem dX1_whyNot_36 : decode cX1_whyNot 36 = .ok (.invokevirtual 93, 3) := by decide +kernel
theorem dX1_whyNot_39 : decode cX1_whyNot 39 = .ok (.ifCond .ne 5, 3) := by decide +kernel
theorem dX1_whyNot_42 : decode cX1_whyNot 42 = .ok (.iconst 5, 1) := by decide +kernel
theorem dX1_whyNot_43 : decode cX1_whyNot 43 = .ok (.ireturn, 1) := by decide +kernel
theorem dX1_whyNot_44 : decode cX1_whyNot 44 = .ok (.iload_n 2, 1) := by decide +kernel
theorem dX1_whyNot_45 : decode cX1_whyNot 45 = .ok (.aload_n 0, 1) := by decide +kernel
theorem dX1_whyNot_46 : decode cX1_whyNot 46 = .ok (.iload_n 1, 1) := by decide +kernel
theorem dX1_whyNot_47 : decode cX1_whyNot 47 = .ok (.invokevirtual 96, 3) := by decide +kernel
theorem dX1_whyNot_50 : decode cX1_whyNot 50 = .ok (.iadd, 1) := by decide +kernel
theorem dX1_whyNot_51 : decode cX1_whyNot 51 = .ok (.sipush 240, 3) := by decide +kernel
theorem dX1_whyNot_54 : decode cX1_whyNot 54 = .ok (.if_icmp .le 8, 3) := by decide +kernel
theorem dX1_whyNot_57 : decode cX1_whyNot 57 = .ok (.bipush 6, 2) := by decide +kernel
theorem dX1_whyNot_59 : decode cX1_whyNot 59 = .ok (.goto 4, 3) := by decide +kernel
theorem dX1_whyNot_62 : decode cX1_whyNot 62 = .ok (.iconst 0, 1) := by decide +kernel
theorem dX1_whyNot_63 : decode cX1_whyNot 63 = .ok (.ireturn, 1) := by decide +kernel
set_option maxRecDepth 20000 in
theorem ggX1_hasNeverSo_X10_hasPorterIn : GoodIn wsX1_hasNeverSo wsX10_hasPorterIn := goodIn_r _ [5] (by decide +kernel) (by decide +kernel)
set_option maxRecDepth 20000 in
theorem gX1_hasNeverSo_X10_hasPorterIn_n66 : GoodIn wsX1_hasNeverSo (wsX10_hasPorterIn) := ggX1_hasNeverSo_X10_hasPorterIn
set_option maxRecDepth 20000 in
theorem ggX1_hasNeverSo_X0_isNeverSo : GoodIn wsX1_hasNeverSo wsX0_isNeverSo := goodIn_r _ [12] (by decide +kernel) (by decide +kernel)
set_option maxRecDepth 20000 in
theorem gX1_hasNeverSo_X0_isNeverSo_u99X0 : GoodIn wsX1_hasNeverSo (va_wsO RX1 99 RX0 "OnlyTwo$Plain" ⟨"OnlyTwo$Plain", "isNeverSo", "(IIZ)Z"⟩ yX0_isNeverSo wsX0_isNeverSo) := goodIn_app (goodIn_of _ (by decide +kernel)) ggX1_hasNeverSo_X0_isNeverSo
set_option maxRecDepth 20000 in
theorem ggX1_hasNeverSo_X6_isNeverSo : GoodIn wsX1_hasNeverSo wsX6_isNeverSo := goodIn_r _ [13] (by decide +kernel) (by decide +kernel)
set_option maxRecDepth 20000 in
theorem gX1_hasNeverSo_X6_isNeverSo_u99X2 : GoodIn wsX1_hasNeverSo (va_wsU RX1 99 RX2 "OnlyTwo$Plain" ⟨"OnlyTwo$Plain", "isNeverSo", "(IIZ)Z"⟩ yX6_isNeverSo wsX6_isNeverSo) := goodIn_app (goodIn_of _ (by decide +kernel)) ggX1_hasNeverSo_X6_isNeverSo
set_option maxRecDepth 20000 in
theorem gX1_hasNeverSo_X6_isNeverSo_u99X3 : GoodIn wsX1_hasNeverSo (va_wsU RX1 99 RX3 "OnlyTwo$Plain" ⟨"OnlyTwo$Plain", "isNeverSo", "(IIZ)Z"⟩ yX6_isNeverSo wsX6_isNeverSo) := goodIn_app (goodIn_of _ (by decide +kernel)) ggX1_hasNeverSo_X6_isNeverSo
set_option maxRecDepth 20000 in
theorem gX1_hasNeverSo_X6_isNeverSo_u99X4 : GoodIn wsX1_hasNeverSo (va_wsU RX1 99 RX4 "OnlyTwo$Plain" ⟨"OnlyTwo$Plain", "isNeverSo", "(IIZ)Z"⟩ yX6_isNeverSo wsX6_isNeverSo) := goodIn_app (goodIn_of _ (by decide +kernel)) ggX1_hasNeverSo_X6_isNeverSo
set_option maxRecDepth 20000 in
theorem gX1_hasNeverSo_X6_isNeverSo : GoodIn wsX1_hasNeverSo (wsV RX1 99 RX6 yX6_isNeverSo wsX6_isNeverSo) := goodIn_app (goodIn_of _ (by decide +kernel)) ggX1_hasNeverSo_X6_isNeverSo
set_option maxRecDepth 20000 in
theorem ggX1_hasNeverSo_X9_isNeverSo : GoodIn wsX1_hasNeverSo wsX9_isNeverSo := goodIn_r _ [24, 3, 4, 5] (by decide +kernel) (by decide +kernel)
set_option maxRecDepth 20000 in
theorem gX1_hasNeverSo_X9_isNeverSo_u99X9 : GoodIn wsX1_hasNeverSo (va_wsO RX1 99 RX9 "OnlyTwo$Plain" ⟨"OnlyTwo$Plain", "isNeverSo", "(IIZ)Z"⟩ yX9_isNeverSo wsX9_isNeverSo) := goodIn_app (goodIn_of _ (by decide +kernel)) ggX1_hasNeverSo_X9_isNeverSo
theorem dX1_hasNeverSo_0 : decode cX1_hasNeverSo 0 = .ok (.iconst 0, 1) := by decide +kernel
theorem dX1_hasNeverSo_1 : decode cX1_hasNeverSo 1 = .ok (.istore_n 3, 1) := by decide +kernel
theorem dX1_hasNeverSo_2 : decode cX1_hasNeverSo 2 = .ok (.iload_n 3, 1) := by decide +kernel
theorem dX1_hasNeverSo_3 : decode cX1_hasNeverSo 3 = .ok (.aload_n 0, 1) := by decide +kernel
theorem dX1_hasNeverSo_4 : decode cX1_hasNeverSo 4 = .ok (.getfield 56, 3) := by decide +kernel
theorem dX1_hasNeverSo_7 : decode cX1_hasNeverSo 7 = .ok (.if_icmp .ge 34, 3) := by decide +kernel
theorem dX1_hasNeverSo_10 : decode cX1_hasNeverSo 10 = .ok (.iload_n 1, 1) := by decide +kernel
theorem dX1_hasNeverSo_11 : decode cX1_hasNeverSo 11 = .ok (.iload_n 3, 1) := by decide +kernel
theorem dX1_hasNeverSo_12 : decode cX1_hasNeverSo 12 = .ok (.invokestatic 66, 3) := by decide +kernel
theorem dX1_hasNeverSo_15 : decode cX1_hasNeverSo 15 = .ok (.ifCond .eq 20, 3) := by decide +kernel
theorem dX1_hasNeverSo_18 : decode cX1_hasNeverSo 18 = .ok (.aload_n 0, 1) := by decide +kernel
theorem dX1_hasNeverSo_19 : decode cX1_hasNeverSo 19 = .ok (.getfield 11, 3) := by decide +kernel
theorem dX1_hasNeverSo_22 : decode cX1_hasNeverSo 22 = .ok (.iload_n 3, 1) := by decide +kernel
theorem dX1_hasNeverSo_23 : decode cX1_hasNeverSo 23 = .ok (.aaload, 1) := by decide +kernel
theorem dX1_hasNeverSo_24 : decode cX1_hasNeverSo 24 = .ok (.iload_n 3, 1) := by decide +kernel
theorem dX1_hasNeverSo_25 : decode cX1_hasNeverSo 25 = .ok (.iload_n 1, 1) := by decide +kernel
theorem dX1_hasNeverSo_26 : decode cX1_hasNeverSo 26 = .ok (.iload_n 2, 1) := by decide +kernel
theorem dX1_hasNeverSo_27 : decode cX1_hasNeverSo 27 = .ok (.invokevirtual 99, 3) := by decide +kernel
theorem dX1_hasNeverSo_30 : decode cX1_hasNeverSo 30 = .ok (.ifCond .eq 5, 3) := by decide +kernel
theorem dX1_hasNeverSo_33 : decode cX1_hasNeverSo 33 = .ok (.iconst 1, 1) := by decide +kernel
theorem dX1_hasNeverSo_34 : decode cX1_hasNeverSo 34 = .ok (.ireturn, 1) := by decide +kernel
theorem dX1_hasNeverSo_35 : decode cX1_hasNeverSo 35 = .ok (.iinc 3 1, 3) := by decide +kernel
theorem dX1_hasNeverSo_38 : decode cX1_hasNeverSo 38 = .ok (.goto (-36), 3) := by decide +kernel
theorem dX1_hasNeverSo_41 : decode cX1_hasNeverSo 41 = .ok (.iconst 0, 1) := by decide +kernel
theorem dX1_hasNeverSo_42 : decode cX1_hasNeverSo 42 = .ok (.ireturn, 1) := by decide +kernel
set_option maxRecDepth 20000 in
theorem ggX1_hasGuide_X10_hasPorterIn : GoodIn wsX1_hasGuide wsX10_hasPorterIn := goodIn_r _ [5] (by decide +kernel) (by decide +kernel)
set_option maxRecDepth 20000 in
theorem gX1_hasGuide_X10_hasPorterIn_n66 : GoodIn wsX1_hasGuide (wsX10_hasPorterIn) := ggX1_hasGuide_X10_hasPorterIn
set_option maxRecDepth 20000 in
theorem ggX1_hasGuide_X6_isGuide : GoodIn wsX1_hasGuide wsX6_isGuide := goodIn_r _ [11] (by decide +kernel) (by decide +kernel)
set_option maxRecDepth 20000 in
theorem gX1_hasGuide_X6_isGuide_u103X0 : GoodIn wsX1_hasGuide (va_wsU RX1 103 RX0 "OnlyTwo$Plain" ⟨"OnlyTwo$Plain", "isGuide", "()Z"⟩ yX6_isGuide wsX6_isGuide) := goodIn_app (goodIn_of _ (by decide +kernel)) ggX1_hasGuide_X6_isGuide
set_option maxRecDepth 20000 in
theorem ggX1_hasGuide_X2_isGuide : GoodIn wsX1_hasGuide wsX2_isGuide := goodIn_r _ [16] (by decide +kernel) (by decide +kernel)
set_option maxRecDepth 20000 in
theorem gX1_hasGuide_X2_isGuide_u103X2 : GoodIn wsX1_hasGuide (va_wsO RX1 103 RX2 "OnlyTwo$Plain" ⟨"OnlyTwo$Plain", "isGuide", "()Z"⟩ yX2_isGuide wsX2_isGuide) := goodIn_app (goodIn_of _ (by decide +kernel)) ggX1_hasGuide_X2_isGuide
set_option maxRecDepth 20000 in
theorem gX1_hasGuide_X6_isGuide_u103X3 : GoodIn wsX1_hasGuide (va_wsU RX1 103 RX3 "OnlyTwo$Plain" ⟨"OnlyTwo$Plain", "isGuide", "()Z"⟩ yX6_isGuide wsX6_isGuide) := goodIn_app (goodIn_of _ (by decide +kernel)) ggX1_hasGuide_X6_isGuide
set_option maxRecDepth 20000 in
theorem gX1_hasGuide_X6_isGuide_u103X4 : GoodIn wsX1_hasGuide (va_wsU RX1 103 RX4 "OnlyTwo$Plain" ⟨"OnlyTwo$Plain", "isGuide", "()Z"⟩ yX6_isGuide wsX6_isGuide) := goodIn_app (goodIn_of _ (by decide +kernel)) ggX1_hasGuide_X6_isGuide
set_option maxRecDepth 20000 in
theorem gX1_hasGuide_X6_isGuide : GoodIn wsX1_hasGuide (wsV RX1 103 RX6 yX6_isGuide wsX6_isGuide) := goodIn_app (goodIn_of _ (by decide +kernel)) ggX1_hasGuide_X6_isGuide
set_option maxRecDepth 20000 in
theorem gX1_hasGuide_X6_isGuide_u103X9 : GoodIn wsX1_hasGuide (va_wsU RX1 103 RX9 "OnlyTwo$Plain" ⟨"OnlyTwo$Plain", "isGuide", "()Z"⟩ yX6_isGuide wsX6_isGuide) := goodIn_app (goodIn_of _ (by decide +kernel)) ggX1_hasGuide_X6_isGuide
theorem dX1_hasGuide_0 : decode cX1_hasGuide 0 = .ok (.iconst 0, 1) := by decide +kernel
theorem dX1_hasGuide_1 : decode cX1_hasGuide 1 = .ok (.istore_n 2, 1) := by decide +kernel
theorem dX1_hasGuide_2 : decode cX1_hasGuide 2 = .ok (.iload_n 2, 1) := by decide +kernel
theorem dX1_hasGuide_3 : decode cX1_hasGuide 3 = .ok (.aload_n 0, 1) := by decide +kernel
theorem dX1_hasGuide_4 : decode cX1_hasGuide 4 = .ok (.getfield 56, 3) := by decide +kernel
theorem dX1_hasGuide_7 : decode cX1_hasGuide 7 = .ok (.if_icmp .ge 31, 3) := by decide +kernel
theorem dX1_hasGuide_10 : decode cX1_hasGuide 10 = .ok (.iload_n 1, 1) := by decide +kernel
theorem dX1_hasGuide_11 : decode cX1_hasGuide 11 = .ok (.iload_n 2, 1) := by decide +kernel
theorem dX1_hasGuide_12 : decode cX1_hasGuide 12 = .ok (.invokestatic 66, 3) := by decide +kernel
theorem dX1_hasGuide_15 : decode cX1_hasGuide 15 = .ok (.ifCond .eq 17, 3) := by decide +kernel
theorem dX1_hasGuide_18 : decode cX1_hasGuide 18 = .ok (.aload_n 0, 1) := by decide +kernel
theorem dX1_hasGuide_19 : decode cX1_hasGuide 19 = .ok (.getfield 11, 3) := by decide +kernel
theorem dX1_hasGuide_22 : decode cX1_hasGuide 22 = .ok (.iload_n 2, 1) := by decide +kernel
theorem dX1_hasGuide_23 : decode cX1_hasGuide 23 = .ok (.aaload, 1) := by decide +kernel
theorem dX1_hasGuide_24 : decode cX1_hasGuide 24 = .ok (.invokevirtual 103, 3) := by decide +kernel
theorem dX1_hasGuide_27 : decode cX1_hasGuide 27 = .ok (.ifCond .eq 5, 3) := by decide +kernel
theorem dX1_hasGuide_30 : decode cX1_hasGuide 30 = .ok (.iconst 1, 1) := by decide +kernel
theorem dX1_hasGuide_31 : decode cX1_hasGuide 31 = .ok (.ireturn, 1) := by decide +kernel
theorem dX1_hasGuide_32 : decode cX1_hasGuide 32 = .ok (.iinc 2 1, 3) := by decide +kernel
theorem dX1_hasGuide_35 : decode cX1_hasGuide 35 = .ok (.goto (-33), 3) := by decide +kernel
theorem dX1_hasGuide_38 : decode cX1_hasGuide 38 = .ok (.iconst 0, 1) := by decide +kernel
theorem dX1_hasGuide_39 : decode cX1_hasGuide 39 = .ok (.ireturn, 1) := by decide +kernel
set_option maxRecDepth 20000 in
theorem ggX1_isUnlikeEnough_X10_hasPorterIn : GoodIn wsX1_isUnlikeEnough wsX10_hasPorterIn := goodIn_r _ [9] (by decide +kernel) (by decide +kernel)
set_option maxRecDepth 20000 in
theorem gX1_isUnlikeEnough_X10_hasPorterIn_n66 : GoodIn wsX1_isUnlikeEnough (wsX10_hasPorterIn) := ggX1_isUnlikeEnough_X10_hasPorterIn
set_option maxRecDepth 20000 in
theorem ggX1_isUnlikeEnough_X1_weightOf : GoodIn wsX1_isUnlikeEnough wsX1_weightOf := goodIn_r _ [14, 15, 6, 16, 17, 18, 19, 20, 21, 22, 23, 24, 25, 26, 27, 28, 29, 30, 31, 32, 33, 34, 54, 55, 56, 57, 58, 59, 60, 61, 62, 63, 64, 65, 66, 67, 68, 69, 70, 71, 72, 73, 74, 75, 76, 77, 78, 79, 80, 81, 82, 83, 84, 85, 86, 87] (by decide +kernel) (by decide +kernel)
set_option maxRecDepth 20000 in
theorem gX1_isUnlikeEnough_X1_weightOf : GoodIn wsX1_isUnlikeEnough (wsV RX1 107 RX1 yX1_weightOf wsX1_weightOf) := goodIn_app (goodIn_of _ (by decide +kernel)) ggX1_isUnlikeEnough_X1_weightOf
set_option maxRecDepth 20000 in
theorem ggX1_isUnlikeEnough_X1_hasGuide : GoodIn wsX1_isUnlikeEnough wsX1_hasGuide := goodIn_r _ [38, 1, 15, 7, 8, 9, 39, 40, 41, 42, 28, 43, 44, 45, 46, 47, 48, 49, 50, 51, 52, 53, 54, 55, 56, 57, 58, 59, 60, 61, 62, 63] (by decide +kernel) (by decide +kernel)
set_option maxRecDepth 20000 in
theorem gX1_isUnlikeEnough_X1_hasGuide : GoodIn wsX1_isUnlikeEnough (wsV RX1 113 RX1 yX1_hasGuide wsX1_hasGuide) := goodIn_app (goodIn_of _ (by decide +kernel)) ggX1_isUnlikeEnough_X1_hasGuide
theorem dX1_isUnlikeEnough_0 : decode cX1_isUnlikeEnough 0 = .ok (.iconst 0, 1) := by decide +kernel
theorem dX1_isUnlikeEnough_1 : decode cX1_isUnlikeEnough 1 = .ok (.istore_n 3, 1) := by decide +kernel
theorem dX1_isUnlikeEnough_2 : decode cX1_isUnlikeEnough 2 = .ok (.iconst 1, 1) := by decide +kernel
theorem dX1_isUnlikeEnough_3 : decode cX1_isUnlikeEnough 3 = .ok (.istore 4, 2) := by decide +kernel
theorem dX1_isUnlikeEnough_5 : decode cX1_isUnlikeEnough 5 = .ok (.iconst 0, 1) := by decide +kernel
theorem dX1_isUnlikeEnough_6 : decode cX1_isUnlikeEnough 6 = .ok (.istore 5, 2) := by decide +kernel
theorem dX1_isUnlikeEnough_8 : decode cX1_isUnlikeEnough 8 = .ok (.iload 5, 2) := by decide +kernel
theorem dX1_isUnlikeEnough_10 : decode cX1_isUnlikeEnough 10 = .ok (.aload_n 0, 1) := by decide +kernel
theorem dX1_isUnlikeEnough_11 : decode cX1_isUnlikeEnough 11 = .ok (.getfield 56, 3) := by decide +kernel
theorem dX1_isUnlikeEnough_14 : decode cX1_isUnlikeEnough 14 = .ok (.if_icmp .ge 34, 3) := by decide +kernel
theorem dX1_isUnlikeEnough_17 : decode cX1_isUnlikeEnough 17 = .ok (.iload_n 1, 1) := by decide +kernel
theorem dX1_isUnlikeEnough_18 : decode cX1_isUnlikeEnough 18 = .ok (.iload 5, 2) := by decide +kernel
theorem dX1_isUnlikeEnough_20 : decode cX1_isUnlikeEnough 20 = .ok (.invokestatic 66, 3) := by decide +kernel
theorem dX1_isUnlikeEnough_23 : decode cX1_isUnlikeEnough 23 = .ok (.ifCond .eq 19, 3) := by decide +kernel
theorem dX1_isUnlikeEnough_26 : decode cX1_isUnlikeEnough 26 = .ok (.iload_n 3, 1) := by decide +kernel
theorem dX1_isUnlikeEnough_27 : decode cX1_isUnlikeEnough 27 = .ok (.iload 4, 2) := by decide +kernel
theorem dX1_isUnlikeEnough_29 : decode cX1_isUnlikeEnough 29 = .ok (.aload_n 0, 1) := by decide +kernel
theorem dX1_isUnlikeEnough_30 : decode cX1_isUnlikeEnough 30 = .ok (.iload 5, 2) := by decide +kernel
theorem dX1_isUnlikeEnough_32 : decode cX1_isUnlikeEnough 32 = .ok (.iload_n 2, 1) := by decide +kernel
theorem dX1_isUnlikeEnough_33 : decode cX1_isUnlikeEnough 33 = .ok (.invokevirtual 107, 3) := by decide +kernel
theorem dX1_isUnlikeEnough_36 : decode cX1_isUnlikeEnough 36 = .ok (.imul, 1) := by decide +kernel
theorem dX1_isUnlikeEnough_37 : decode cX1_isUnlikeEnough 37 = .ok (.iadd, 1) := by decide +kernel
theorem dX1_isUnlikeEnough_38 : decode cX1_isUnlikeEnough 38 = .ok (.istore_n 3, 1) := by decide +kernel
theorem dX1_isUnlikeEnough_39 : decode cX1_isUnlikeEnough 39 = .ok (.iconst (-1), 1) := by decide +kernel
theorem dX1_isUnlikeEnough_40 : decode cX1_isUnlikeEnough 40 = .ok (.istore 4, 2) := by decide +kernel
theorem dX1_isUnlikeEnough_42 : decode cX1_isUnlikeEnough 42 = .ok (.iinc 5 1, 3) := by decide +kernel
theorem dX1_isUnlikeEnough_45 : decode cX1_isUnlikeEnough 45 = .ok (.goto (-37), 3) := by decide +kernel
theorem dX1_isUnlikeEnough_48 : decode cX1_isUnlikeEnough 48 = .ok (.iload_n 3, 1) := by decide +kernel
theorem dX1_isUnlikeEnough_49 : decode cX1_isUnlikeEnough 49 = .ok (.invokestatic 110, 3) := by decide +kernel
theorem dX1_isUnlikeEnough_52 : decode cX1_isUnlikeEnough 52 = .ok (.aload_n 0, 1) := by decide +kernel
theorem dX1_isUnlikeEnough_53 : decode cX1_isUnlikeEnough 53 = .ok (.getfield 17, 3) := by decide +kernel
theorem dX1_isUnlikeEnough_56 : decode cX1_isUnlikeEnough 56 = .ok (.iconst 0, 1) := by decide +kernel
theorem dX1_isUnlikeEnough_57 : decode cX1_isUnlikeEnough 57 = .ok (.iaload, 1) := by decide +kernel
theorem dX1_isUnlikeEnough_58 : decode cX1_isUnlikeEnough 58 = .ok (.if_icmp .ge 11, 3) := by decide +kernel
theorem dX1_isUnlikeEnough_61 : decode cX1_isUnlikeEnough 61 = .ok (.aload_n 0, 1) := by decide +kernel
theorem dX1_isUnlikeEnough_62 : decode cX1_isUnlikeEnough 62 = .ok (.iload_n 1, 1) := by decide +kernel
theorem dX1_isUnlikeEnough_63 : decode cX1_isUnlikeEnough 63 = .ok (.invokevirtual 113, 3) := by decide +kernel
theorem dX1_isUnlikeEnough_66 : decode cX1_isUnlikeEnough 66 = .ok (.ifCond .eq 7, 3) := by decide +kernel
theorem dX1_isUnlikeEnough_69 : decode cX1_isUnlikeEnough 69 = .ok (.iconst 1, 1) := by decide +kernel
theorem dX1_isUnlikeEnough_70 : decode cX1_isUnlikeEnough 70 = .ok (.goto 4, 3) := by decide +kernel
theorem dX1_isUnlikeEnough_73 : decode cX1_isUnlikeEnough 73 = .ok (.iconst 0, 1) := by decide +kernel
theorem dX1_isUnlikeEnough_74 : decode cX1_isUnlikeEnough 74 = .ok (.ireturn, 1) := by decide +kernel
set_option maxRecDepth 20000 in
theorem ggX1_firstNoGo_X1_whyNoGo : GoodIn wsX1_firstNoGo wsX1_whyNoGo := goodIn_r _ [8, 3, 2, 9, 10, 11, 12, 13, 14, 7, 15, 16, 17, 18, 19, 20, 21, 22, 23, 24, 25, 26, 27, 28, 29, 30, 31, 32, 33, 34, 35, 36, 37, 38, 39, 40, 41, 42, 43, 44, 45, 46, 47, 48, 49, 50, 51, 52, 53, 54, 55, 56, 57, 58, 59, 60, 61, 62, 63, 64, 65, 66, 67, 68, 69, 70, 71, 72, 73, 74, 75, 76, 77, 78, 79, 80, 81, 82, 83, 84, 85, 86, 87, 88, 89, 90, 91, 92, 93, 94, 95, 96, 97, 98, 99, 100, 101, 102, 103, 104, 105, 106, 107, 108, 109, 110, 111, 112, 113, 114, 115, 116, 117, 118, 119, 120, 121, 122, 123, 124, 125, 126, 127, 128, 129, 130, 131, 132, 133, 134, 135, 136, 137, 138, 139, 140, 141, 142, 143, 144, 145, 146, 147, 148, 149, 150, 151, 152, 153, 154, 155, 156, 157, 158, 159, 160, 161, 162] (by decide +kernel) (by decide +kernel)
set_option maxRecDepth 20000 in
theorem gX1_firstNoGo_X1_whyNoGo : GoodIn wsX1_firstNoGo (wsV RX1 117 RX1 yX1_whyNoGo wsX1_whyNoGo) := goodIn_app (goodIn_of _ (by decide +kernel)) ggX1_firstNoGo_X1_whyNoGo
set_option maxRecDepth 20000 in
theorem ggX1_firstNoGo_X1_minutesOf : GoodIn wsX1_firstNoGo wsX1_minutesOf := goodIn_r _ [107, 32, 33, 108, 109, 61, 110, 34, 10, 35, 111, 112, 113, 114, 46, 115, 116, 117, 118, 119, 120, 121, 122, 123, 124, 125, 126, 127, 128, 129, 130, 131, 132, 133, 134, 135, 136, 137, 138, 139, 140, 141, 142, 143, 144, 145, 146, 147, 148, 149, 150, 151, 152, 153, 154, 155, 156, 157, 158, 159, 160, 161, 162] (by decide +kernel) (by decide +kernel)
set_option maxRecDepth 20000 in
theorem gX1_firstNoGo_X1_minutesOf : GoodIn wsX1_firstNoGo (wsV RX1 96 RX1 yX1_minutesOf wsX1_minutesOf) := goodIn_app (goodIn_of _ (by decide +kernel)) ggX1_firstNoGo_X1_minutesOf
theorem dX1_firstNoGo_0 : decode cX1_firstNoGo 0 = .ok (.iconst 0, 1) := by decide +kernel
theorem dX1_firstNoGo_1 : decode cX1_firstNoGo 1 = .ok (.istore_n 1, 1) := by decide +kernel
theorem dX1_firstNoGo_2 : decode cX1_firstNoGo 2 = .ok (.iconst 0, 1) := by decide +kernel
theorem dX1_firstNoGo_3 : decode cX1_firstNoGo 3 = .ok (.istore_n 2, 1) := by decide +kernel
theorem dX1_firstNoGo_4 : decode cX1_firstNoGo 4 = .ok (.iconst 0, 1) := by decide +kernel
theorem dX1_firstNoGo_5 : decode cX1_firstNoGo 5 = .ok (.istore_n 3, 1) := by decide +kernel
theorem dX1_firstNoGo_6 : decode cX1_firstNoGo 6 = .ok (.iload_n 3, 1) := by decide +kernel
theorem dX1_firstNoGo_7 : decode cX1_firstNoGo 7 = .ok (.aload_n 0, 1) := by decide +kernel
theorem dX1_firstNoGo_8 : decode cX1_firstNoGo 8 = .ok (.getfield 59, 3) := by decide +kernel
theorem dX1_firstNoGo_11 : decode cX1_firstNoGo 11 = .ok (.if_icmp .ge 58, 3) := by decide +kernel
theorem dX1_firstNoGo_14 : decode cX1_firstNoGo 14 = .ok (.aload_n 0, 1) := by decide +kernel
theorem dX1_firstNoGo_15 : decode cX1_firstNoGo 15 = .ok (.iload_n 3, 1) := by decide +kernel
theorem dX1_firstNoGo_16 : decode cX1_firstNoGo 16 = .ok (.iload_n 1, 1) := by decide +kernel
theorem dX1_firstNoGo_17 : decode cX1_firstNoGo 17 = .ok (.iload_n 2, 1) := by decide +kernel
theorem dX1_firstNoGo_18 : decode cX1_firstNoGo 18 = .ok (.invokevirtual 117, 3) := by decide +kernel
theorem dX1_firstNoGo_21 : decode cX1_firstNoGo 21 = .ok (.istore 4, 2) := by decide +kernel
theorem dX1_firstNoGo_23 : decode cX1_firstNoGo 23 = .ok (.iload 4, 2) := by decide +kernel
theorem dX1_firstNoGo_25 : decode cX1_firstNoGo 25 = .ok (.ifCond .eq 11, 3) := by decide +kernel
theorem dX1_firstNoGo_28 : decode cX1_firstNoGo 28 = .ok (.bipush 10, 2) := by decide +kernel
theorem dX1_firstNoGo_30 : decode cX1_firstNoGo 30 = .ok (.iload_n 3, 1) := by decide +kernel
theorem dX1_firstNoGo_31 : decode cX1_firstNoGo 31 = .ok (.imul, 1) := by decide +kernel
theorem dX1_firstNoGo_32 : decode cX1_firstNoGo 32 = .ok (.iload 4, 2) := by decide +kernel
theorem dX1_firstNoGo_34 : decode cX1_firstNoGo 34 = .ok (.iadd, 1) := by decide +kernel
theorem dX1_firstNoGo_35 : decode cX1_firstNoGo 35 = .ok (.ireturn, 1) := by decide +kernel
theorem dX1_firstNoGo_36 : decode cX1_firstNoGo 36 = .ok (.iload_n 1, 1) := by decide +kernel
theorem dX1_firstNoGo_37 : decode cX1_firstNoGo 37 = .ok (.aload_n 0, 1) := by decide +kernel
theorem dX1_firstNoGo_38 : decode cX1_firstNoGo 38 = .ok (.getfield 24, 3) := by decide +kernel
theorem dX1_firstNoGo_41 : decode cX1_firstNoGo 41 = .ok (.iload_n 3, 1) := by decide +kernel
theorem dX1_firstNoGo_42 : decode cX1_firstNoGo 42 = .ok (.iaload, 1) := by decide +kernel
theorem dX1_firstNoGo_43 : decode cX1_firstNoGo 43 = .ok (.ixor, 1) := by decide +kernel
theorem dX1_firstNoGo_44 : decode cX1_firstNoGo 44 = .ok (.istore_n 1, 1) := by decide +kernel
theorem dX1_firstNoGo_45 : decode cX1_firstNoGo 45 = .ok (.aload_n 0, 1) := by decide +kernel
theorem dX1_firstNoGo_46 : decode cX1_firstNoGo 46 = .ok (.getfield 21, 3) := by decide +kernel
theorem dX1_firstNoGo_49 : decode cX1_firstNoGo 49 = .ok (.iload_n 3, 1) := by decide +kernel
theorem dX1_firstNoGo_50 : decode cX1_firstNoGo 50 = .ok (.iaload, 1) := by decide +kernel
theorem dX1_firstNoGo_51 : decode cX1_firstNoGo 51 = .ok (.aload_n 0, 1) := by decide +kernel
theorem dX1_firstNoGo_52 : decode cX1_firstNoGo 52 = .ok (.aload_n 0, 1) := by decide +kernel
theorem dX1_firstNoGo_53 : decode cX1_firstNoGo 53 = .ok (.getfield 24, 3) := by decide +kernel
theorem dX1_firstNoGo_56 : decode cX1_firstNoGo 56 = .ok (.iload_n 3, 1) := by decide +kernel
theorem dX1_firstNoGo_57 : decode cX1_firstNoGo 57 = .ok (.iaload, 1) := by decide +kernel
theorem dX1_firstNoGo_58 : decode cX1_firstNoGo 58 = .ok (.invokevirtual 96, 3) := by decide +kernel
theorem dX1_firstNoGo_61 : decode cX1_firstNoGo 61 = .ok (.iadd, 1) := by decide +kernel
theorem dX1_firstNoGo_62 : decode cX1_firstNoGo 62 = .ok (.istore_n 2, 1) := by decide +kernel
theorem dX1_firstNoGo_63 : decode cX1_firstNoGo 63 = .ok (.iinc 3 1, 3) := by decide +kernel
theorem dX1_firstNoGo_66 : decode cX1_firstNoGo 66 = .ok (.goto (-60), 3) := by decide +kernel
theorem dX1_firstNoGo_69 : decode cX1_firstNoGo 69 = .ok (.iconst (-1), 1) := by decide +kernel
theorem dX1_firstNoGo_70 : decode cX1_firstNoGo 70 = .ok (.ireturn, 1) := by decide +kernel
set_option maxRecDepth 20000 in
theorem ggX1_whyNoGo_X10_isOnOneSide : GoodIn wsX1_whyNoGo wsX10_isOnOneSide := goodIn_r _ [5] (by decide +kernel) (by decide +kernel)
set_option maxRecDepth 20000 in
theorem gX1_whyNoGo_X10_isOnOneSide_n121 : GoodIn wsX1_whyNoGo (wsX10_isOnOneSide) := ggX1_whyNoGo_X10_isOnOneSide
set_option maxRecDepth 20000 in
theorem ggX1_whyNoGo_X1_isNight : GoodIn wsX1_whyNoGo wsX1_isNight := goodIn_r _ [10, 11, 124, 125, 126, 127, 128, 129, 130, 131, 132, 133] (by decide +kernel) (by decide +kernel)
set_option maxRecDepth 20000 in
theorem gX1_whyNoGo_X1_isNight : GoodIn wsX1_whyNoGo (wsV RX1 124 RX1 yX1_isNight wsX1_isNight) := goodIn_app (goodIn_of _ (by decide +kernel)) ggX1_whyNoGo_X1_isNight
set_option maxRecDepth 20000 in
theorem ggX1_whyNoGo_X1_whyNot : GoodIn wsX1_whyNoGo wsX1_whyNot := goodIn_r _ [15, 16, 17, 18, 19, 20, 21, 22, 23, 24, 25, 9, 26, 27, 28, 29, 4, 30, 31, 32, 33, 34, 35, 36, 37, 38, 39, 40, 41, 42, 43, 44, 45, 46, 47, 48, 49, 50, 51, 52, 53, 54, 55, 56, 57, 11, 58, 59, 60, 61, 62, 63, 64, 65, 66, 67, 68, 69, 70, 71, 72, 73, 74, 75, 76, 77, 78, 79, 80, 81, 82, 83, 84, 85, 86, 87, 88, 89, 90, 91, 92, 93, 94, 95, 96, 97, 98, 99, 100, 101, 102, 103, 104, 105, 106, 107, 108, 109, 110, 111, 112, 113, 114, 115, 116, 117, 118, 119, 120, 121, 122, 123, 124, 125, 126, 127, 128, 129, 130, 131, 132, 133, 134, 135, 136, 137, 138, 139, 140, 141, 142, 143, 144, 145, 146, 147, 148, 149, 150, 151, 152, 153, 154, 155, 156, 157] (by decide +kernel) (by decide +kernel)
set_option maxRecDepth 20000 in
theorem gX1_whyNoGo_X1_whyNot : GoodIn wsX1_whyNoGo (wsV RX1 127 RX1 yX1_whyNot wsX1_whyNot) := goodIn_app (goodIn_of _ (by decide +kernel)) ggX1_whyNoGo_X1_whyNot
theorem dX1_whyNoGo_0 : decode cX1_whyNoGo 0 = .ok (.aload_n 0, 1) := by decide +kernel
theorem dX1_whyNoGo_1 : decode cX1_whyNoGo 1 = .ok (.getfield 21, 3) := by decide +kernel
theorem dX1_whyNoGo_4 : decode cX1_whyNoGo 4 = .ok (.iload_n 1, 1) := by decide +kernel
theorem dX1_whyNoGo_5 : decode cX1_whyNoGo 5 = .ok (.iaload, 1) := by decide +kernel
theorem dX1_whyNoGo_6 : decode cX1_whyNoGo 6 = .ok (.iload_n 3, 1) := by decide +kernel
theorem dX1_whyNoGo_7 : decode cX1_whyNoGo 7 = .ok (.if_icmp .ge 5, 3) := by decide +kernel
theorem dX1_whyNoGo_10 : decode cX1_whyNoGo 10 = .ok (.iconst 1, 1) := by decide +kernel
theorem dX1_whyNoGo_11 : decode cX1_whyNoGo 11 = .ok (.ireturn, 1) := by decide +kernel
theorem dX1_whyNoGo_12 : decode cX1_whyNoGo 12 = .ok (.aload_n 0, 1) := by decide +kernel
theorem dX1_whyNoGo_13 : decode cX1_whyNoGo 13 = .ok (.getfield 24, 3) := by decide +kernel
theorem dX1_whyNoGo_16 : decode cX1_whyNoGo 16 = .ok (.iload_n 1, 1) := by decide +kernel
theorem dX1_whyNoGo_17 : decode cX1_whyNoGo 17 = .ok (.iaload, 1) := by decide +kernel
theorem dX1_whyNoGo_18 : decode cX1_whyNoGo 18 = .ok (.iload_n 2, 1) := by decide +kernel
theorem dX1_whyNoGo_19 : decode cX1_whyNoGo 19 = .ok (.invokestatic 121, 3) := by decide +kernel
theorem dX1_whyNoGo_22 : decode cX1_whyNoGo 22 = .ok (.ifCond .ne 5, 3) := by decide +kernel
theorem dX1_whyNoGo_25 : decode cX1_whyNoGo 25 = .ok (.iconst 2, 1) := by decide +kernel
theorem dX1_whyNoGo_26 : decode cX1_whyNoGo 26 = .ok (.ireturn, 1) := by decide +kernel
theorem dX1_whyNoGo_27 : decode cX1_whyNoGo 27 = .ok (.aload_n 0, 1) := by decide +kernel
theorem dX1_whyNoGo_28 : decode cX1_whyNoGo 28 = .ok (.aload_n 0, 1) := by decide +kernel
theorem dX1_whyNoGo_29 : decode cX1_whyNoGo 29 = .ok (.getfield 24, 3) := by decide +kernel
theorem dX1_whyNoGo_32 : decode cX1_whyNoGo 32 = .ok (.iload_n 1, 1) := by decide +kernel
theorem dX1_whyNoGo_33 : decode cX1_whyNoGo 33 = .ok (.iaload, 1) := by decide +kernel
theorem dX1_whyNoGo_34 : decode cX1_whyNoGo 34 = .ok (.aload_n 0, 1) := by decide +kernel
theorem dX1_whyNoGo_35 : decode cX1_whyNoGo 35 = .ok (.getfield 21, 3) := by decide +kernel
theorem dX1_whyNoGo_38 : decode cX1_whyNoGo 38 = .ok (.iload_n 1, 1) := by decide +kernel
theorem dX1_whyNoGo_39 : decode cX1_whyNoGo 39 = .ok (.iaload, 1) := by decide +kernel
theorem dX1_whyNoGo_40 : decode cX1_whyNoGo 40 = .ok (.aload_n 0, 1) := by decide +kernel
theorem dX1_whyNoGo_41 : decode cX1_whyNoGo 41 = .ok (.aload_n 0, 1) := by decide +kernel
theorem dX1_whyNoGo_42 : decode cX1_whyNoGo 42 = .ok (.getfield 21, 3) := by decide +kernel
theorem dX1_whyNoGo_45 : decode cX1_whyNoGo 45 = .ok (.iload_n 1, 1) := by decide +kernel
theorem dX1_whyNoGo_46 : decode cX1_whyNoGo 46 = .ok (.iaload, 1) := by decide +kernel
theorem dX1_whyNoGo_47 : decode cX1_whyNoGo 47 = .ok (.invokevirtual 124, 3) := by decide +kernel
theorem dX1_whyNoGo_50 : decode cX1_whyNoGo 50 = .ok (.invokevirtual 127, 3) := by decide +kernel
theorem dX1_whyNoGo_53 : decode cX1_whyNoGo 53 = .ok (.ireturn, 1) := by decide +kernel
set_option maxRecDepth 20000 in
theorem ggX1_weightOfGo_X10_hasPorterIn : GoodIn wsX1_weightOfGo wsX10_hasPorterIn := goodIn_r _ [6] (by decide +kernel) (by decide +kernel)
set_option maxRecDepth 20000 in
theorem gX1_weightOfGo_X10_hasPorterIn_n66 : GoodIn wsX1_weightOfGo (wsX10_hasPorterIn) := ggX1_weightOfGo_X10_hasPorterIn
set_option maxRecDepth 20000 in
theorem ggX1_weightOfGo_X1_weightOf : GoodIn wsX1_weightOfGo wsX1_weightOf := goodIn_r _ [11, 12, 13, 14, 15, 16, 17, 18, 19, 20, 21, 22, 23, 24, 25, 26, 27, 28, 29, 30, 31, 32, 33, 34, 35, 36, 37, 38, 39, 40, 41, 42, 43, 44, 45, 46, 47, 48, 49, 50, 51, 52, 53, 54, 55, 56, 57, 58, 59, 60, 61, 62, 63, 64, 65, 66] (by decide +kernel) (by decide +kernel)
set_option maxRecDepth 20000 in
theorem gX1_weightOfGo_X1_weightOf : GoodIn wsX1_weightOfGo (wsV RX1 107 RX1 yX1_weightOf wsX1_weightOf) := goodIn_app (goodIn_of _ (by decide +kernel)) ggX1_weightOfGo_X1_weightOf
theorem dX1_weightOfGo_0 : decode cX1_weightOfGo 0 = .ok (.iconst 0, 1) := by decide +kernel
theorem dX1_weightOfGo_1 : decode cX1_weightOfGo 1 = .ok (.istore_n 2, 1) := by decide +kernel
theorem dX1_weightOfGo_2 : decode cX1_weightOfGo 2 = .ok (.iconst 0, 1) := by decide +kernel
theorem dX1_weightOfGo_3 : decode cX1_weightOfGo 3 = .ok (.istore_n 3, 1) := by decide +kernel
theorem dX1_weightOfGo_4 : decode cX1_weightOfGo 4 = .ok (.iload_n 3, 1) := by decide +kernel
theorem dX1_weightOfGo_5 : decode cX1_weightOfGo 5 = .ok (.aload_n 0, 1) := by decide +kernel
theorem dX1_weightOfGo_6 : decode cX1_weightOfGo 6 = .ok (.getfield 56, 3) := by decide +kernel
theorem dX1_weightOfGo_9 : decode cX1_weightOfGo 9 = .ok (.if_icmp .ge 36, 3) := by decide +kernel
theorem dX1_weightOfGo_12 : decode cX1_weightOfGo 12 = .ok (.aload_n 0, 1) := by decide +kernel
theorem dX1_weightOfGo_13 : decode cX1_weightOfGo 13 = .ok (.getfield 24, 3) := by decide +kernel
theorem dX1_weightOfGo_16 : decode cX1_weightOfGo 16 = .ok (.iload_n 1, 1) := by decide +kernel
theorem dX1_weightOfGo_17 : decode cX1_weightOfGo 17 = .ok (.iaload, 1) := by decide +kernel
theorem dX1_weightOfGo_18 : decode cX1_weightOfGo 18 = .ok (.iload_n 3, 1) := by decide +kernel
theorem dX1_weightOfGo_19 : decode cX1_weightOfGo 19 = .ok (.invokestatic 66, 3) := by decide +kernel
theorem dX1_weightOfGo_22 : decode cX1_weightOfGo 22 = .ok (.ifCond .eq 17, 3) := by decide +kernel
theorem dX1_weightOfGo_25 : decode cX1_weightOfGo 25 = .ok (.iload_n 2, 1) := by decide +kernel
theorem dX1_weightOfGo_26 : decode cX1_weightOfGo 26 = .ok (.aload_n 0, 1) := by decide +kernel
theorem dX1_weightOfGo_27 : decode cX1_weightOfGo 27 = .ok (.iload_n 3, 1) := by decide +kernel
theorem dX1_weightOfGo_28 : decode cX1_weightOfGo 28 = .ok (.aload_n 0, 1) := by decide +kernel
theorem dX1_weightOfGo_29 : decode cX1_weightOfGo 29 = .ok (.getfield 21, 3) := by decide +kernel
theorem dX1_weightOfGo_32 : decode cX1_weightOfGo 32 = .ok (.iload_n 1, 1) := by decide +kernel
theorem dX1_weightOfGo_33 : decode cX1_weightOfGo 33 = .ok (.iaload, 1) := by decide +kernel
theorem dX1_weightOfGo_34 : decode cX1_weightOfGo 34 = .ok (.invokevirtual 107, 3) := by decide +kernel
theorem dX1_weightOfGo_37 : decode cX1_weightOfGo 37 = .ok (.iadd, 1) := by decide +kernel
theorem dX1_weightOfGo_38 : decode cX1_weightOfGo 38 = .ok (.istore_n 2, 1) := by decide +kernel
theorem dX1_weightOfGo_39 : decode cX1_weightOfGo 39 = .ok (.iinc 3 1, 3) := by decide +kernel
theorem dX1_weightOfGo_42 : decode cX1_weightOfGo 42 = .ok (.goto (-38), 3) := by decide +kernel
theorem dX1_weightOfGo_45 : decode cX1_weightOfGo 45 = .ok (.iload_n 2, 1) := by decide +kernel
theorem dX1_weightOfGo_46 : decode cX1_weightOfGo 46 = .ok (.ireturn, 1) := by decide +kernel
set_option maxRecDepth 20000 in
theorem ggX1_turnsUntilOver_X1_whyNot : GoodIn wsX1_turnsUntilOver wsX1_whyNot := goodIn_r _ [5, 6, 7, 8, 9, 10, 11, 12, 13, 14, 15, 4, 16, 17, 18, 19, 20, 21, 22, 23, 24, 25, 26, 27, 28, 29, 30, 31, 32, 33, 34, 35, 36, 37, 38, 39, 40, 41, 42, 43, 44, 45, 46, 47, 48, 49, 50, 51, 52, 53, 54, 55, 56, 57, 58, 59, 60, 61, 62, 63, 64, 65, 66, 67, 68, 69, 70, 71, 72, 73, 74, 75, 76, 77, 78, 79, 80, 81, 82, 83, 84, 85, 86, 87, 88, 89, 90, 91, 92, 93, 94, 95, 96, 97, 98, 99, 100, 101, 102, 103, 104, 105, 106, 107, 108, 109, 110, 111, 112, 113, 114, 115, 121, 122, 123, 124, 125, 126, 127, 128, 129, 130, 131, 132, 133, 134, 135, 136, 137, 138, 139, 140, 141, 142, 143, 144, 145, 146, 147, 148, 149, 150, 151, 152, 153, 154] (by decide +kernel) (by decide +kernel)
set_option maxRecDepth 20000 in
theorem gX1_turnsUntilOver_X1_whyNot : GoodIn wsX1_turnsUntilOver (wsV RX1 127 RX1 yX1_whyNot wsX1_whyNot) := goodIn_app (goodIn_of _ (by decide +kernel)) ggX1_turnsUntilOver_X1_whyNot
set_option maxRecDepth 20000 in
theorem ggX1_turnsUntilOver_X10_crossed : GoodIn wsX1_turnsUntilOver wsX10_crossed := goodIn_r _ [117, 118, 119, 120, 19, 20, 21] (by decide +kernel) (by decide +kernel)
set_option maxRecDepth 20000 in
theorem gX1_turnsUntilOver_X10_crossed_n134 : GoodIn wsX1_turnsUntilOver (wsX10_crossed) := ggX1_turnsUntilOver_X10_crossed
theorem dX1_turnsUntilOver_0 : decode cX1_turnsUntilOver 0 = .ok (.lconst 1, 1) := by decide +kernel
theorem dX1_turnsUntilOver_1 : decode cX1_turnsUntilOver 1 = .ok (.lstore_n 2, 1) := by decide +kernel
theorem dX1_turnsUntilOver_2 : decode cX1_turnsUntilOver 2 = .ok (.iconst 0, 1) := by decide +kernel
theorem dX1_turnsUntilOver_3 : decode cX1_turnsUntilOver 3 = .ok (.istore 4, 2) := by decide +kernel
theorem dX1_turnsUntilOver_5 : decode cX1_turnsUntilOver 5 = .ok (.iload 4, 2) := by decide +kernel
theorem dX1_turnsUntilOver_7 : decode cX1_turnsUntilOver 7 = .ok (.bipush 64, 2) := by decide +kernel
theorem dX1_turnsUntilOver_9 : decode cX1_turnsUntilOver 9 = .ok (.if_icmp .ge 101, 3) := by decide +kernel
theorem dX1_turnsUntilOver_12 : decode cX1_turnsUntilOver 12 = .ok (.lload_n 2, 1) := by decide +kernel
theorem dX1_turnsUntilOver_13 : decode cX1_turnsUntilOver 13 = .ok (.iload_n 1, 1) := by decide +kernel
theorem dX1_turnsUntilOver_14 : decode cX1_turnsUntilOver 14 = .ok (.lushr, 1) := by decide +kernel
theorem dX1_turnsUntilOver_15 : decode cX1_turnsUntilOver 15 = .ok (.lconst 1, 1) := by decide +kernel
theorem dX1_turnsUntilOver_16 : decode cX1_turnsUntilOver 16 = .ok (.land, 1) := by decide +kernel
theorem dX1_turnsUntilOver_17 : decode cX1_turnsUntilOver 17 = .ok (.lconst 0, 1) := by decide +kernel
theorem dX1_turnsUntilOver_18 : decode cX1_turnsUntilOver 18 = .ok (.lcmp, 1) := by decide +kernel
theorem dX1_turnsUntilOver_19 : decode cX1_turnsUntilOver 19 = .ok (.ifCond .eq 6, 3) := by decide +kernel
theorem dX1_turnsUntilOver_22 : decode cX1_turnsUntilOver 22 = .ok (.iload 4, 2) := by decide +kernel
theorem dX1_turnsUntilOver_24 : decode cX1_turnsUntilOver 24 = .ok (.ireturn, 1) := by decide +kernel
theorem dX1_turnsUntilOver_25 : decode cX1_turnsUntilOver 25 = .ok (.lload_n 2, 1) := by decide +kernel
theorem dX1_turnsUntilOver_26 : decode cX1_turnsUntilOver 26 = .ok (.lstore 5, 2) := by decide +kernel
theorem dX1_turnsUntilOver_28 : decode cX1_turnsUntilOver 28 = .ok (.getstatic 131, 3) := by decide +kernel
theorem dX1_turnsUntilOver_31 : decode cX1_turnsUntilOver 31 = .ok (.astore 7, 2) := by decide +kernel
theorem dX1_turnsUntilOver_33 : decode cX1_turnsUntilOver 33 = .ok (.aload 7, 2) := by decide +kernel
theorem dX1_turnsUntilOver_35 : decode cX1_turnsUntilOver 35 = .ok (.arraylength, 1) := by decide +kernel
theorem dX1_turnsUntilOver_36 : decode cX1_turnsUntilOver 36 = .ok (.istore 8, 2) := by decide +kernel
theorem dX1_turnsUntilOver_38 : decode cX1_turnsUntilOver 38 = .ok (.iconst 0, 1) := by decide +kernel
theorem dX1_turnsUntilOver_39 : decode cX1_turnsUntilOver 39 = .ok (.istore 9, 2) := by decide +kernel
theorem dX1_turnsUntilOver_41 : decode cX1_turnsUntilOver 41 = .ok (.iload 9, 2) := by decide +kernel
theorem dX1_turnsUntilOver_43 : decode cX1_turnsUntilOver 43 = .ok (.iload 8, 2) := by decide +kernel
theorem dX1_turnsUntilOver_45 : decode cX1_turnsUntilOver 45 = .ok (.if_icmp .ge 47, 3) := by decide +kernel
theorem dX1_turnsUntilOver_48 : decode cX1_turnsUntilOver 48 = .ok (.aload 7, 2) := by decide +kernel
theorem dX1_turnsUntilOver_50 : decode cX1_turnsUntilOver 50 = .ok (.iload 9, 2) := by decide +kernel
theorem dX1_turnsUntilOver_52 : decode cX1_turnsUntilOver 52 = .ok (.iaload, 1) := by decide +kernel
theorem dX1_turnsUntilOver_53 : decode cX1_turnsUntilOver 53 = .ok (.istore 10, 2) := by decide +kernel
theorem dX1_turnsUntilOver_55 : decode cX1_turnsUntilOver 55 = .ok (.iload 10, 2) := by decide +kernel
theorem dX1_turnsUntilOver_57 : decode cX1_turnsUntilOver 57 = .ok (.iload_n 1, 1) := by decide +kernel
theorem dX1_turnsUntilOver_58 : decode cX1_turnsUntilOver 58 = .ok (.iand, 1) := by decide +kernel
theorem dX1_turnsUntilOver_59 : decode cX1_turnsUntilOver 59 = .ok (.iload 10, 2) := by decide +kernel
theorem dX1_turnsUntilOver_61 : decode cX1_turnsUntilOver 61 = .ok (.if_icmp .ne 25, 3) := by decide +kernel
theorem dX1_turnsUntilOver_64 : decode cX1_turnsUntilOver 64 = .ok (.aload_n 0, 1) := by decide +kernel
theorem dX1_turnsUntilOver_65 : decode cX1_turnsUntilOver 65 = .ok (.iload 10, 2) := by decide +kernel
theorem dX1_turnsUntilOver_67 : decode cX1_turnsUntilOver 67 = .ok (.iconst 0, 1) := by decide +kernel
theorem dX1_turnsUntilOver_68 : decode cX1_turnsUntilOver 68 = .ok (.iconst 0, 1) := by decide +kernel
theorem dX1_turnsUntilOver_69 : decode cX1_turnsUntilOver 69 = .ok (.invokevirtual 127, 3) := by decide +kernel
theorem dX1_turnsUntilOver_72 : decode cX1_turnsUntilOver 72 = .ok (.ifCond .ne 14, 3) := by decide +kernel
theorem dX1_turnsUntilOver_75 : decode cX1_turnsUntilOver 75 = .ok (.lload 5, 2) := by decide +kernel
theorem dX1_turnsUntilOver_77 : decode cX1_turnsUntilOver 77 = .ok (.lload_n 2, 1) := by decide +kernel
theorem dX1_turnsUntilOver_78 : decode cX1_turnsUntilOver 78 = .ok (.iload 10, 2) := by decide +kernel
theorem dX1_turnsUntilOver_80 : decode cX1_turnsUntilOver 80 = .ok (.invokestatic 134, 3) := by decide +kernel
theorem dX1_turnsUntilOver_83 : decode cX1_turnsUntilOver 83 = .ok (.lor, 1) := by decide +kernel
theorem dX1_turnsUntilOver_84 : decode cX1_turnsUntilOver 84 = .ok (.lstore 5, 2) := by decide +kernel
theorem dX1_turnsUntilOver_86 : decode cX1_turnsUntilOver 86 = .ok (.iinc 9 1, 3) := by decide +kernel
theorem dX1_turnsUntilOver_89 : decode cX1_turnsUntilOver 89 = .ok (.goto (-48), 3) := by decide +kernel
theorem dX1_turnsUntilOver_92 : decode cX1_turnsUntilOver 92 = .ok (.lload 5, 2) := by decide +kernel
theorem dX1_turnsUntilOver_94 : decode cX1_turnsUntilOver 94 = .ok (.lload_n 2, 1) := by decide +kernel
theorem dX1_turnsUntilOver_95 : decode cX1_turnsUntilOver 95 = .ok (.lcmp, 1) := by decide +kernel
theorem dX1_turnsUntilOver_96 : decode cX1_turnsUntilOver 96 = .ok (.ifCond .ne 5, 3) := by decide +kernel
theorem dX1_turnsUntilOver_99 : decode cX1_turnsUntilOver 99 = .ok (.iconst (-1), 1) := by decide +kernel
theorem dX1_turnsUntilOver_100 : decode cX1_turnsUntilOver 100 = .ok (.ireturn, 1) := by decide +kernel
theorem dX1_turnsUntilOver_101 : decode cX1_turnsUntilOver 101 = .ok (.lload 5, 2) := by decide +kernel
theorem dX1_turnsUntilOver_103 : decode cX1_turnsUntilOver 103 = .ok (.lstore_n 2, 1) := by decide +kernel
theorem dX1_turnsUntilOver_104 : decode cX1_turnsUntilOver 104 = .ok (.iinc 4 1, 3) := by decide +kernel
theorem dX1_turnsUntilOver_107 : decode cX1_turnsUntilOver 107 = .ok (.goto (-102), 3) := by decide +kernel
theorem dX1_turnsUntilOver_110 : decode cX1_turnsUntilOver 110 = .ok (.iconst (-1), 1) := by decide +kernel
theorem dX1_turnsUntilOver_111 : decode cX1_turnsUntilOver 111 = .ok (.ireturn, 1) := by decide +kernel
set_option maxRecDepth 20000 in
theorem ggX1_digestOfAll_X1_digestOf : GoodIn wsX1_digestOfAll wsX1_digestOf := goodIn_r _ [20, 2] (by decide +kernel) (by decide +kernel)
set_option maxRecDepth 20000 in
theorem gX1_digestOfAll_X1_digestOf : GoodIn wsX1_digestOfAll (va_wsS RX1 151 yX1_digestOf wsX1_digestOf) := goodIn_app (goodIn_of _ (by decide +kernel)) ggX1_digestOfAll_X1_digestOf
theorem dX1_digestOfAll_0 : decode cX1_digestOfAll 0 = .ok (.ldc2_w 138, 3) := by decide +kernel
theorem dX1_digestOfAll_3 : decode cX1_digestOfAll 3 = .ok (.lstore_n 1, 1) := by decide +kernel
theorem dX1_digestOfAll_4 : decode cX1_digestOfAll 4 = .ok (.ldc2_w 140, 3) := by decide +kernel
theorem dX1_digestOfAll_7 : decode cX1_digestOfAll 7 = .ok (.lload_n 1, 1) := by decide +kernel
theorem dX1_digestOfAll_8 : decode cX1_digestOfAll 8 = .ok (.lmul, 1) := by decide +kernel
theorem dX1_digestOfAll_9 : decode cX1_digestOfAll 9 = .ok (.aload_n 0, 1) := by decide +kernel
theorem dX1_digestOfAll_10 : decode cX1_digestOfAll 10 = .ok (.getfield 56, 3) := by decide +kernel
theorem dX1_digestOfAll_13 : decode cX1_digestOfAll 13 = .ok (.i2l, 1) := by decide +kernel
theorem dX1_digestOfAll_14 : decode cX1_digestOfAll 14 = .ok (.ladd, 1) := by decide +kernel
theorem dX1_digestOfAll_15 : decode cX1_digestOfAll 15 = .ok (.lstore_n 1, 1) := by decide +kernel
theorem dX1_digestOfAll_16 : decode cX1_digestOfAll 16 = .ok (.ldc2_w 140, 3) := by decide +kernel
theorem dX1_digestOfAll_19 : decode cX1_digestOfAll 19 = .ok (.lload_n 1, 1) := by decide +kernel
theorem dX1_digestOfAll_20 : decode cX1_digestOfAll 20 = .ok (.lmul, 1) := by decide +kernel
theorem dX1_digestOfAll_21 : decode cX1_digestOfAll 21 = .ok (.aload_n 0, 1) := by decide +kernel
theorem dX1_digestOfAll_22 : decode cX1_digestOfAll 22 = .ok (.getfield 59, 3) := by decide +kernel
theorem dX1_digestOfAll_25 : decode cX1_digestOfAll 25 = .ok (.i2l, 1) := by decide +kernel
theorem dX1_digestOfAll_26 : decode cX1_digestOfAll 26 = .ok (.ladd, 1) := by decide +kernel
theorem dX1_digestOfAll_27 : decode cX1_digestOfAll 27 = .ok (.lstore_n 1, 1) := by decide +kernel
theorem dX1_digestOfAll_28 : decode cX1_digestOfAll 28 = .ok (.ldc2_w 140, 3) := by decide +kernel
theorem dX1_digestOfAll_31 : decode cX1_digestOfAll 31 = .ok (.lload_n 1, 1) := by decide +kernel
theorem dX1_digestOfAll_32 : decode cX1_digestOfAll 32 = .ok (.lmul, 1) := by decide +kernel
theorem dX1_digestOfAll_33 : decode cX1_digestOfAll 33 = .ok (.aload_n 0, 1) := by decide +kernel
theorem dX1_digestOfAll_34 : decode cX1_digestOfAll 34 = .ok (.getfield 49, 3) := by decide +kernel
theorem dX1_digestOfAll_37 : decode cX1_digestOfAll 37 = .ok (.i2l, 1) := by decide +kernel
theorem dX1_digestOfAll_38 : decode cX1_digestOfAll 38 = .ok (.ladd, 1) := by decide +kernel
theorem dX1_digestOfAll_39 : decode cX1_digestOfAll 39 = .ok (.lstore_n 1, 1) := by decide +kernel
theorem dX1_digestOfAll_40 : decode cX1_digestOfAll 40 = .ok (.ldc2_w 140, 3) := by decide +kernel
theorem dX1_digestOfAll_43 : decode cX1_digestOfAll 43 = .ok (.lload_n 1, 1) := by decide +kernel
theorem dX1_digestOfAll_44 : decode cX1_digestOfAll 44 = .ok (.lmul, 1) := by decide +kernel
theorem dX1_digestOfAll_45 : decode cX1_digestOfAll 45 = .ok (.aload_n 0, 1) := by decide +kernel
theorem dX1_digestOfAll_46 : decode cX1_digestOfAll 46 = .ok (.getfield 53, 3) := by decide +kernel
theorem dX1_digestOfAll_49 : decode cX1_digestOfAll 49 = .ok (.i2l, 1) := by decide +kernel
theorem dX1_digestOfAll_50 : decode cX1_digestOfAll 50 = .ok (.ladd, 1) := by decide +kernel
theorem dX1_digestOfAll_51 : decode cX1_digestOfAll 51 = .ok (.lstore_n 1, 1) := by decide +kernel
theorem dX1_digestOfAll_52 : decode cX1_digestOfAll 52 = .ok (.iconst 0, 1) := by decide +kernel
theorem dX1_digestOfAll_53 : decode cX1_digestOfAll 53 = .ok (.istore_n 3, 1) := by decide +kernel
theorem dX1_digestOfAll_54 : decode cX1_digestOfAll 54 = .ok (.iload_n 3, 1) := by decide +kernel
theorem dX1_digestOfAll_55 : decode cX1_digestOfAll 55 = .ok (.aload_n 0, 1) := by decide +kernel
theorem dX1_digestOfAll_56 : decode cX1_digestOfAll 56 = .ok (.getfield 56, 3) := by decide +kernel
theorem dX1_digestOfAll_59 : decode cX1_digestOfAll 59 = .ok (.if_icmp .ge 77, 3) := by decide +kernel
theorem dX1_digestOfAll_62 : decode cX1_digestOfAll 62 = .ok (.ldc2_w 140, 3) := by decide +kernel
theorem dX1_digestOfAll_65 : decode cX1_digestOfAll 65 = .ok (.lload_n 1, 1) := by decide +kernel
theorem dX1_digestOfAll_66 : decode cX1_digestOfAll 66 = .ok (.lmul, 1) := by decide +kernel
theorem dX1_digestOfAll_67 : decode cX1_digestOfAll 67 = .ok (.aload_n 0, 1) := by decide +kernel
theorem dX1_digestOfAll_68 : decode cX1_digestOfAll 68 = .ok (.getfield 11, 3) := by decide +kernel
theorem dX1_digestOfAll_71 : decode cX1_digestOfAll 71 = .ok (.iload_n 3, 1) := by decide +kernel
theorem dX1_digestOfAll_72 : decode cX1_digestOfAll 72 = .ok (.aaload, 1) := by decide +kernel
theorem dX1_digestOfAll_73 : decode cX1_digestOfAll 73 = .ok (.getfield 142, 3) := by decide +kernel
theorem dX1_digestOfAll_76 : decode cX1_digestOfAll 76 = .ok (.i2l, 1) := by decide +kernel
theorem dX1_digestOfAll_77 : decode cX1_digestOfAll 77 = .ok (.ladd, 1) := by decide +kernel
theorem dX1_digestOfAll_78 : decode cX1_digestOfAll 78 = .ok (.lstore_n 1, 1) := by decide +kernel
theorem dX1_digestOfAll_79 : decode cX1_digestOfAll 79 = .ok (.ldc2_w 140, 3) := by decide +kernel
theorem dX1_digestOfAll_82 : decode cX1_digestOfAll 82 = .ok (.lload_n 1, 1) := by decide +kernel
theorem dX1_digestOfAll_83 : decode cX1_digestOfAll 83 = .ok (.lmul, 1) := by decide +kernel
theorem dX1_digestOfAll_84 : decode cX1_digestOfAll 84 = .ok (.aload_n 0, 1) := by decide +kernel
theorem dX1_digestOfAll_85 : decode cX1_digestOfAll 85 = .ok (.getfield 11, 3) := by decide +kernel
theorem dX1_digestOfAll_88 : decode cX1_digestOfAll 88 = .ok (.iload_n 3, 1) := by decide +kernel
theorem dX1_digestOfAll_89 : decode cX1_digestOfAll 89 = .ok (.aaload, 1) := by decide +kernel
theorem dX1_digestOfAll_90 : decode cX1_digestOfAll 90 = .ok (.getfield 145, 3) := by decide +kernel
theorem dX1_digestOfAll_93 : decode cX1_digestOfAll 93 = .ok (.i2l, 1) := by decide +kernel
theorem dX1_digestOfAll_94 : decode cX1_digestOfAll 94 = .ok (.ladd, 1) := by decide +kernel
theorem dX1_digestOfAll_95 : decode cX1_digestOfAll 95 = .ok (.lstore_n 1, 1) := by decide +kernel
theorem dX1_digestOfAll_96 : decode cX1_digestOfAll 96 = .ok (.ldc2_w 140, 3) := by decide +kernel
theorem dX1_digestOfAll_99 : decode cX1_digestOfAll 99 = .ok (.lload_n 1, 1) := by decide +kernel
theorem dX1_digestOfAll_100 : decode cX1_digestOfAll 100 = .ok (.lmul, 1) := by decide +kernel
theorem dX1_digestOfAll_101 : decode cX1_digestOfAll 101 = .ok (.aload_n 0, 1) := by decide +kernel
theorem dX1_digestOfAll_102 : decode cX1_digestOfAll 102 = .ok (.getfield 11, 3) := by decide +kernel
theorem dX1_digestOfAll_105 : decode cX1_digestOfAll 105 = .ok (.iload_n 3, 1) := by decide +kernel
theorem dX1_digestOfAll_106 : decode cX1_digestOfAll 106 = .ok (.aaload, 1) := by decide +kernel
theorem dX1_digestOfAll_107 : decode cX1_digestOfAll 107 = .ok (.getfield 80, 3) := by decide +kernel
theorem dX1_digestOfAll_110 : decode cX1_digestOfAll 110 = .ok (.i2l, 1) := by decide +kernel
theorem dX1_digestOfAll_111 : decode cX1_digestOfAll 111 = .ok (.ladd, 1) := by decide +kernel
theorem dX1_digestOfAll_112 : decode cX1_digestOfAll 112 = .ok (.lstore_n 1, 1) := by decide +kernel
theorem dX1_digestOfAll_113 : decode cX1_digestOfAll 113 = .ok (.ldc2_w 140, 3) := by decide +kernel
theorem dX1_digestOfAll_116 : decode cX1_digestOfAll 116 = .ok (.lload_n 1, 1) := by decide +kernel
theorem dX1_digestOfAll_117 : decode cX1_digestOfAll 117 = .ok (.lmul, 1) := by decide +kernel
theorem dX1_digestOfAll_118 : decode cX1_digestOfAll 118 = .ok (.aload_n 0, 1) := by decide +kernel
theorem dX1_digestOfAll_119 : decode cX1_digestOfAll 119 = .ok (.getfield 11, 3) := by decide +kernel
theorem dX1_digestOfAll_122 : decode cX1_digestOfAll 122 = .ok (.iload_n 3, 1) := by decide +kernel
theorem dX1_digestOfAll_123 : decode cX1_digestOfAll 123 = .ok (.aaload, 1) := by decide +kernel
theorem dX1_digestOfAll_124 : decode cX1_digestOfAll 124 = .ok (.getfield 148, 3) := by decide +kernel
theorem dX1_digestOfAll_127 : decode cX1_digestOfAll 127 = .ok (.i2l, 1) := by decide +kernel
theorem dX1_digestOfAll_128 : decode cX1_digestOfAll 128 = .ok (.ladd, 1) := by decide +kernel
theorem dX1_digestOfAll_129 : decode cX1_digestOfAll 129 = .ok (.lstore_n 1, 1) := by decide +kernel
theorem dX1_digestOfAll_130 : decode cX1_digestOfAll 130 = .ok (.iinc 3 1, 3) := by decide +kernel
theorem dX1_digestOfAll_133 : decode cX1_digestOfAll 133 = .ok (.goto (-79), 3) := by decide +kernel
theorem dX1_digestOfAll_136 : decode cX1_digestOfAll 136 = .ok (.lload_n 1, 1) := by decide +kernel
theorem dX1_digestOfAll_137 : decode cX1_digestOfAll 137 = .ok (.aload_n 0, 1) := by decide +kernel
theorem dX1_digestOfAll_138 : decode cX1_digestOfAll 138 = .ok (.getfield 17, 3) := by decide +kernel
theorem dX1_digestOfAll_141 : decode cX1_digestOfAll 141 = .ok (.iconst 4, 1) := by decide +kernel
theorem dX1_digestOfAll_142 : decode cX1_digestOfAll 142 = .ok (.invokestatic 151, 3) := by decide +kernel
theorem dX1_digestOfAll_145 : decode cX1_digestOfAll 145 = .ok (.lstore_n 1, 1) := by decide +kernel
theorem dX1_digestOfAll_146 : decode cX1_digestOfAll 146 = .ok (.iconst 0, 1) := by decide +kernel
theorem dX1_digestOfAll_147 : decode cX1_digestOfAll 147 = .ok (.istore_n 3, 1) := by decide +kernel
theorem dX1_digestOfAll_148 : decode cX1_digestOfAll 148 = .ok (.iload_n 3, 1) := by decide +kernel
theorem dX1_digestOfAll_149 : decode cX1_digestOfAll 149 = .ok (.aload_n 0, 1) := by decide +kernel
theorem dX1_digestOfAll_150 : decode cX1_digestOfAll 150 = .ok (.getfield 59, 3) := by decide +kernel
theorem dX1_digestOfAll_153 : decode cX1_digestOfAll 153 = .ok (.if_icmp .ge 37, 3) := by decide +kernel
theorem dX1_digestOfAll_156 : decode cX1_digestOfAll 156 = .ok (.ldc2_w 140, 3) := by decide +kernel
theorem dX1_digestOfAll_159 : decode cX1_digestOfAll 159 = .ok (.lload_n 1, 1) := by decide +kernel
theorem dX1_digestOfAll_160 : decode cX1_digestOfAll 160 = .ok (.lmul, 1) := by decide +kernel
theorem dX1_digestOfAll_161 : decode cX1_digestOfAll 161 = .ok (.aload_n 0, 1) := by decide +kernel
theorem dX1_digestOfAll_162 : decode cX1_digestOfAll 162 = .ok (.getfield 21, 3) := by decide +kernel
theorem dX1_digestOfAll_165 : decode cX1_digestOfAll 165 = .ok (.iload_n 3, 1) := by decide +kernel
theorem dX1_digestOfAll_166 : decode cX1_digestOfAll 166 = .ok (.iaload, 1) := by decide +kernel
theorem dX1_digestOfAll_167 : decode cX1_digestOfAll 167 = .ok (.i2l, 1) := by decide +kernel
theorem dX1_digestOfAll_168 : decode cX1_digestOfAll 168 = .ok (.ladd, 1) := by decide +kernel
theorem dX1_digestOfAll_169 : decode cX1_digestOfAll 169 = .ok (.lstore_n 1, 1) := by decide +kernel
theorem dX1_digestOfAll_170 : decode cX1_digestOfAll 170 = .ok (.ldc2_w 140, 3) := by decide +kernel
theorem dX1_digestOfAll_173 : decode cX1_digestOfAll 173 = .ok (.lload_n 1, 1) := by decide +kernel
theorem dX1_digestOfAll_174 : decode cX1_digestOfAll 174 = .ok (.lmul, 1) := by decide +kernel
theorem dX1_digestOfAll_175 : decode cX1_digestOfAll 175 = .ok (.aload_n 0, 1) := by decide +kernel
theorem dX1_digestOfAll_176 : decode cX1_digestOfAll 176 = .ok (.getfield 24, 3) := by decide +kernel
theorem dX1_digestOfAll_179 : decode cX1_digestOfAll 179 = .ok (.iload_n 3, 1) := by decide +kernel
theorem dX1_digestOfAll_180 : decode cX1_digestOfAll 180 = .ok (.iaload, 1) := by decide +kernel
theorem dX1_digestOfAll_181 : decode cX1_digestOfAll 181 = .ok (.i2l, 1) := by decide +kernel
theorem dX1_digestOfAll_182 : decode cX1_digestOfAll 182 = .ok (.ladd, 1) := by decide +kernel
theorem dX1_digestOfAll_183 : decode cX1_digestOfAll 183 = .ok (.lstore_n 1, 1) := by decide +kernel
theorem dX1_digestOfAll_184 : decode cX1_digestOfAll 184 = .ok (.iinc 3 1, 3) := by decide +kernel
theorem dX1_digestOfAll_187 : decode cX1_digestOfAll 187 = .ok (.goto (-39), 3) := by decide +kernel
theorem dX1_digestOfAll_190 : decode cX1_digestOfAll 190 = .ok (.lload_n 1, 1) := by decide +kernel
theorem dX1_digestOfAll_191 : decode cX1_digestOfAll 191 = .ok (.aload_n 0, 1) := by decide +kernel
theorem dX1_digestOfAll_192 : decode cX1_digestOfAll 192 = .ok (.getfield 27, 3) := by decide +kernel
theorem dX1_digestOfAll_195 : decode cX1_digestOfAll 195 = .ok (.aload_n 0, 1) := by decide +kernel
theorem dX1_digestOfAll_196 : decode cX1_digestOfAll 196 = .ok (.getfield 49, 3) := by decide +kernel
theorem dX1_digestOfAll_199 : decode cX1_digestOfAll 199 = .ok (.invokestatic 151, 3) := by decide +kernel
theorem dX1_digestOfAll_202 : decode cX1_digestOfAll 202 = .ok (.lstore_n 1, 1) := by decide +kernel
theorem dX1_digestOfAll_203 : decode cX1_digestOfAll 203 = .ok (.lload_n 1, 1) := by decide +kernel
theorem dX1_digestOfAll_204 : decode cX1_digestOfAll 204 = .ok (.aload_n 0, 1) := by decide +kernel
theorem dX1_digestOfAll_205 : decode cX1_digestOfAll 205 = .ok (.getfield 30, 3) := by decide +kernel
theorem dX1_digestOfAll_208 : decode cX1_digestOfAll 208 = .ok (.aload_n 0, 1) := by decide +kernel
theorem dX1_digestOfAll_209 : decode cX1_digestOfAll 209 = .ok (.getfield 53, 3) := by decide +kernel
theorem dX1_digestOfAll_212 : decode cX1_digestOfAll 212 = .ok (.invokestatic 151, 3) := by decide +kernel
theorem dX1_digestOfAll_215 : decode cX1_digestOfAll 215 = .ok (.lreturn, 1) := by decide +kernel
theorem dX1_digestOf_0 : decode cX1_digestOf 0 = .ok (.lload_n 0, 1) := by decide +kernel
theorem dX1_digestOf_1 : decode cX1_digestOf 1 = .ok (.lstore 4, 2) := by decide +kernel
theorem dX1_digestOf_3 : decode cX1_digestOf 3 = .ok (.iconst 0, 1) := by decide +kernel
theorem dX1_digestOf_4 : decode cX1_digestOf 4 = .ok (.istore 6, 2) := by decide +kernel
theorem dX1_digestOf_6 : decode cX1_digestOf 6 = .ok (.iload 6, 2) := by decide +kernel
theorem dX1_digestOf_8 : decode cX1_digestOf 8 = .ok (.iload_n 3, 1) := by decide +kernel
theorem dX1_digestOf_9 : decode cX1_digestOf 9 = .ok (.if_icmp .ge 30, 3) := by decide +kernel
theorem dX1_digestOf_12 : decode cX1_digestOf 12 = .ok (.iload 6, 2) := by decide +kernel
theorem dX1_digestOf_14 : decode cX1_digestOf 14 = .ok (.aload_n 2, 1) := by decide +kernel
theorem dX1_digestOf_15 : decode cX1_digestOf 15 = .ok (.arraylength, 1) := by decide +kernel
theorem dX1_digestOf_16 : decode cX1_digestOf 16 = .ok (.if_icmp .ge 23, 3) := by decide +kernel
theorem dX1_digestOf_19 : decode cX1_digestOf 19 = .ok (.ldc2_w 140, 3) := by decide +kernel
theorem dX1_digestOf_22 : decode cX1_digestOf 22 = .ok (.lload 4, 2) := by decide +kernel
theorem dX1_digestOf_24 : decode cX1_digestOf 24 = .ok (.lmul, 1) := by decide +kernel
theorem dX1_digestOf_25 : decode cX1_digestOf 25 = .ok (.aload_n 2, 1) := by decide +kernel
theorem dX1_digestOf_26 : decode cX1_digestOf 26 = .ok (.iload 6, 2) := by decide +kernel
theorem dX1_digestOf_28 : decode cX1_digestOf 28 = .ok (.iaload, 1) := by decide +kernel
theorem dX1_digestOf_29 : decode cX1_digestOf 29 = .ok (.i2l, 1) := by decide +kernel
theorem dX1_digestOf_30 : decode cX1_digestOf 30 = .ok (.ladd, 1) := by decide +kernel
theorem dX1_digestOf_31 : decode cX1_digestOf 31 = .ok (.lstore 4, 2) := by decide +kernel
theorem dX1_digestOf_33 : decode cX1_digestOf 33 = .ok (.iinc 6 1, 3) := by decide +kernel
theorem dX1_digestOf_36 : decode cX1_digestOf 36 = .ok (.goto (-30), 3) := by decide +kernel
theorem dX1_digestOf_39 : decode cX1_digestOf 39 = .ok (.lload 4, 2) := by decide +kernel
theorem dX1_digestOf_41 : decode cX1_digestOf 41 = .ok (.lreturn, 1) := by decide +kernel
theorem dX5_init_0 : decode cX5_init 0 = .ok (.aload_n 0, 1) := by decide +kernel
theorem dX5_init_1 : decode cX5_init 1 = .ok (.invokespecial 3, 3) := by decide +kernel
theorem dX5_init_4 : decode cX5_init 4 = .ok (.aload_n 0, 1) := by decide +kernel
theorem dX5_init_5 : decode cX5_init 5 = .ok (.iconst 5, 1) := by decide +kernel
theorem dX5_init_6 : decode cX5_init 6 = .ok (.newarray .int, 2) := by decide +kernel
theorem dX5_init_8 : decode cX5_init 8 = .ok (.putfield 9, 3) := by decide +kernel
theorem dX5_init_11 : decode cX5_init 11 = .ok (.aload_n 0, 1) := by decide +kernel
theorem dX5_init_12 : decode cX5_init 12 = .ok (.iconst 5, 1) := by decide +kernel
theorem dX5_init_13 : decode cX5_init 13 = .ok (.newarray .int, 2) := by decide +kernel
theorem dX5_init_15 : decode cX5_init 15 = .ok (.putfield 15, 3) := by decide +kernel
theorem dX5_init_18 : decode cX5_init 18 = .ok (.aload_n 0, 1) := by decide +kernel
theorem dX5_init_19 : decode cX5_init 19 = .ok (.bipush 6, 2) := by decide +kernel
theorem dX5_init_21 : decode cX5_init 21 = .ok (.newarray .int, 2) := by decide +kernel
theorem dX5_init_23 : decode cX5_init 23 = .ok (.putfield 18, 3) := by decide +kernel
theorem dX5_init_26 : decode cX5_init 26 = .ok (.aload_n 0, 1) := by decide +kernel
theorem dX5_init_27 : decode cX5_init 27 = .ok (.getstatic 21, 3) := by decide +kernel
theorem dX5_init_30 : decode cX5_init 30 = .ok (.arraylength, 1) := by decide +kernel
theorem dX5_init_31 : decode cX5_init 31 = .ok (.newarray .int, 2) := by decide +kernel
theorem dX5_init_33 : decode cX5_init 33 = .ok (.putfield 24, 3) := by decide +kernel
theorem dX5_init_36 : decode cX5_init 36 = .ok (.aload_n 0, 1) := by decide +kernel
theorem dX5_init_37 : decode cX5_init 37 = .ok (.getstatic 21, 3) := by decide +kernel
theorem dX5_init_40 : decode cX5_init 40 = .ok (.arraylength, 1) := by decide +kernel
theorem dX5_init_41 : decode cX5_init 41 = .ok (.newarray .int, 2) := by decide +kernel
theorem dX5_init_43 : decode cX5_init 43 = .ok (.putfield 27, 3) := by decide +kernel
theorem dX5_init_46 : decode cX5_init 46 = .ok (.return_, 1) := by decide +kernel
set_option maxRecDepth 20000 in
theorem ggX5_share_X1_weightOf : GoodIn wsX5_share wsX1_weightOf := goodIn_r _ [9, 10, 11, 12, 13, 14, 15, 16, 17, 18, 19, 20, 21, 22, 23, 24, 25, 26, 27, 28, 29, 30, 119, 120, 121, 122, 123, 124, 125, 126, 127, 128, 129, 130, 131, 132, 133, 134, 135, 136, 137, 138, 139, 140, 141, 142, 143, 144, 145, 146, 147, 148, 149, 150, 151, 152] (by decide +kernel) (by decide +kernel)
set_option maxRecDepth 20000 in
theorem gX5_share_X1_weightOf : GoodIn wsX5_share (wsV RX5 40 RX1 yX1_weightOf wsX1_weightOf) := goodIn_app (goodIn_of _ (by decide +kernel)) ggX5_share_X1_weightOf
set_option maxRecDepth 20000 in
theorem ggX5_share_X5_findPairs : GoodIn wsX5_share wsX5_findPairs := goodIn_r _ [35, 36, 37, 2, 38, 39, 40, 41, 42, 8, 43, 44, 10, 45, 46, 47, 48, 49, 50, 51, 52, 53, 54, 55, 56, 57, 24, 58, 59, 60, 61, 62, 63, 64, 65, 66, 67, 68, 69, 70, 71, 72, 73, 74, 75, 76, 77, 78, 79, 80, 81, 82, 83, 84, 110, 111, 112, 113, 114, 115, 116, 117, 118, 119, 120, 121, 122, 123, 124, 125, 126, 127, 128] (by decide +kernel) (by decide +kernel)
set_option maxRecDepth 20000 in
theorem gX5_share_X5_findPairs : GoodIn wsX5_share (wsV RX5 44 RX5 yX5_findPairs wsX5_findPairs) := goodIn_app (goodIn_of _ (by decide +kernel)) ggX5_share_X5_findPairs
set_option maxRecDepth 20000 in
theorem ggX5_share_X5_giveLoad : GoodIn wsX5_share wsX5_giveLoad := goodIn_r _ [88, 4, 36, 37, 89, 90, 2, 91, 92, 93, 34, 94, 3, 38, 39, 95, 96, 97, 98, 99, 100, 101, 102, 103, 104, 45, 46, 47, 105, 106, 107, 108, 109, 85, 86, 87, 110, 111, 112, 113, 114, 115, 116, 117, 118, 119, 120, 121, 122, 123, 124, 125, 126, 127, 128] (by decide +kernel) (by decide +kernel)
set_option maxRecDepth 20000 in
theorem gX5_share_X5_giveLoad : GoodIn wsX5_share (wsV RX5 51 RX5 yX5_giveLoad wsX5_giveLoad) := goodIn_app (goodIn_of _ (by decide +kernel)) ggX5_share_X5_giveLoad
theorem dX5_share_0 : decode cX5_share 0 = .ok (.aload_n 0, 1) := by decide +kernel
theorem dX5_share_1 : decode cX5_share 1 = .ok (.getfield 30, 3) := by decide +kernel
theorem dX5_share_4 : decode cX5_share 4 = .ok (.ifCond .eq 4, 3) := by decide +kernel
theorem dX5_share_7 : decode cX5_share 7 = .ok (.return_, 1) := by decide +kernel
theorem dX5_share_8 : decode cX5_share 8 = .ok (.aload_n 0, 1) := by decide +kernel
theorem dX5_share_9 : decode cX5_share 9 = .ok (.iconst 1, 1) := by decide +kernel
theorem dX5_share_10 : decode cX5_share 10 = .ok (.putfield 30, 3) := by decide +kernel
theorem dX5_share_13 : decode cX5_share 13 = .ok (.iconst 0, 1) := by decide +kernel
theorem dX5_share_14 : decode cX5_share 14 = .ok (.istore_n 2, 1) := by decide +kernel
theorem dX5_share_15 : decode cX5_share 15 = .ok (.iload_n 2, 1) := by decide +kernel
theorem dX5_share_16 : decode cX5_share 16 = .ok (.aload_n 1, 1) := by decide +kernel
theorem dX5_share_17 : decode cX5_share 17 = .ok (.getfield 34, 3) := by decide +kernel
theorem dX5_share_20 : decode cX5_share 20 = .ok (.if_icmp .ge 21, 3) := by decide +kernel
theorem dX5_share_23 : decode cX5_share 23 = .ok (.aload_n 0, 1) := by decide +kernel
theorem dX5_share_24 : decode cX5_share 24 = .ok (.getfield 18, 3) := by decide +kernel
theorem dX5_share_27 : decode cX5_share 27 = .ok (.iload_n 2, 1) := by decide +kernel
theorem dX5_share_28 : decode cX5_share 28 = .ok (.aload_n 1, 1) := by decide +kernel
theorem dX5_share_29 : decode cX5_share 29 = .ok (.iload_n 2, 1) := by decide +kernel
theorem dX5_share_30 : decode cX5_share 30 = .ok (.iconst 0, 1) := by decide +kernel
theorem dX5_share_31 : decode cX5_share 31 = .ok (.invokevirtual 40, 3) := by decide +kernel
theorem dX5_share_34 : decode cX5_share 34 = .ok (.iastore, 1) := by decide +kernel
theorem dX5_share_35 : decode cX5_share 35 = .ok (.iinc 2 1, 3) := by decide +kernel
theorem dX5_share_38 : decode cX5_share 38 = .ok (.goto (-23), 3) := by decide +kernel
theorem dX5_share_41 : decode cX5_share 41 = .ok (.aload_n 0, 1) := by decide +kernel
theorem dX5_share_42 : decode cX5_share 42 = .ok (.aload_n 1, 1) := by decide +kernel
theorem dX5_share_43 : decode cX5_share 43 = .ok (.invokevirtual 44, 3) := by decide +kernel
theorem dX5_share_46 : decode cX5_share 46 = .ok (.aload_n 0, 1) := by decide +kernel
theorem dX5_share_47 : decode cX5_share 47 = .ok (.iconst (-1), 1) := by decide +kernel
theorem dX5_share_48 : decode cX5_share 48 = .ok (.putfield 48, 3) := by decide +kernel
theorem dX5_share_51 : decode cX5_share 51 = .ok (.aload_n 0, 1) := by decide +kernel
theorem dX5_share_52 : decode cX5_share 52 = .ok (.aload_n 1, 1) := by decide +kernel
theorem dX5_share_53 : decode cX5_share 53 = .ok (.iconst 0, 1) := by decide +kernel
theorem dX5_share_54 : decode cX5_share 54 = .ok (.iconst 0, 1) := by decide +kernel
theorem dX5_share_55 : decode cX5_share 55 = .ok (.invokevirtual 51, 3) := by decide +kernel
theorem dX5_share_58 : decode cX5_share 58 = .ok (.return_, 1) := by decide +kernel
set_option maxRecDepth 20000 in
theorem ggX5_findPairs_X1_hasNeverSo : GoodIn wsX5_findPairs wsX1_hasNeverSo := goodIn_r _ [10, 11, 12, 13, 14, 15, 16, 17, 18, 19, 20, 21, 22, 23, 24, 25, 26, 27, 28, 29, 30, 31, 32, 33, 34, 63, 64, 65, 66, 67, 68, 69, 70, 71, 72] (by decide +kernel) (by decide +kernel)
set_option maxRecDepth 20000 in
theorem gX5_findPairs_X1_hasNeverSo : GoodIn wsX5_findPairs (wsV RX5 61 RX1 yX1_hasNeverSo wsX1_hasNeverSo) := goodIn_app (goodIn_of _ (by decide +kernel)) ggX5_findPairs_X1_hasNeverSo
set_option maxRecDepth 20000 in
theorem ggX5_findPairs_X1_hasGuide : GoodIn wsX5_findPairs wsX1_hasGuide := goodIn_r _ [38, 11, 12, 13, 14, 15, 39, 40, 41, 42, 26, 43, 44, 45, 46, 47, 48, 49, 50, 51, 52, 53, 63, 64, 65, 66, 67, 68, 69, 70, 71, 72] (by decide +kernel) (by decide +kernel)
set_option maxRecDepth 20000 in
theorem gX5_findPairs_X1_hasGuide : GoodIn wsX5_findPairs (wsV RX5 65 RX1 yX1_hasGuide wsX1_hasGuide) := goodIn_app (goodIn_of _ (by decide +kernel)) ggX5_findPairs_X1_hasGuide
theorem dX5_findPairs_0 : decode cX5_findPairs 0 = .ok (.aload_n 0, 1) := by decide +kernel
theorem dX5_findPairs_1 : decode cX5_findPairs 1 = .ok (.iconst 0, 1) := by decide +kernel
theorem dX5_findPairs_2 : decode cX5_findPairs 2 = .ok (.putfield 55, 3) := by decide +kernel
theorem dX5_findPairs_5 : decode cX5_findPairs 5 = .ok (.aload_n 0, 1) := by decide +kernel
theorem dX5_findPairs_6 : decode cX5_findPairs 6 = .ok (.iconst 0, 1) := by decide +kernel
theorem dX5_findPairs_7 : decode cX5_findPairs 7 = .ok (.putfield 58, 3) := by decide +kernel
theorem dX5_findPairs_10 : decode cX5_findPairs 10 = .ok (.iconst 0, 1) := by decide +kernel
theorem dX5_findPairs_11 : decode cX5_findPairs 11 = .ok (.istore_n 2, 1) := by decide +kernel
theorem dX5_findPairs_12 : decode cX5_findPairs 12 = .ok (.iload_n 2, 1) := by decide +kernel
theorem dX5_findPairs_13 : decode cX5_findPairs 13 = .ok (.aload_n 1, 1) := by decide +kernel
theorem dX5_findPairs_14 : decode cX5_findPairs 14 = .ok (.getfield 34, 3) := by decide +kernel
theorem dX5_findPairs_17 : decode cX5_findPairs 17 = .ok (.if_icmp .ge 101, 3) := by decide +kernel
theorem dX5_findPairs_20 : decode cX5_findPairs 20 = .ok (.iload_n 2, 1) := by decide +kernel
theorem dX5_findPairs_21 : decode cX5_findPairs 21 = .ok (.iconst 1, 1) := by decide +kernel
theorem dX5_findPairs_22 : decode cX5_findPairs 22 = .ok (.iadd, 1) := by decide +kernel
theorem dX5_findPairs_23 : decode cX5_findPairs 23 = .ok (.istore_n 3, 1) := by decide +kernel
theorem dX5_findPairs_24 : decode cX5_findPairs 24 = .ok (.iload_n 3, 1) := by decide +kernel
theorem dX5_findPairs_25 : decode cX5_findPairs 25 = .ok (.aload_n 1, 1) := by decide +kernel
theorem dX5_findPairs_26 : decode cX5_findPairs 26 = .ok (.getfield 34, 3) := by decide +kernel
theorem dX5_findPairs_29 : decode cX5_findPairs 29 = .ok (.if_icmp .ge 83, 3) := by decide +kernel
theorem dX5_findPairs_32 : decode cX5_findPairs 32 = .ok (.iconst 1, 1) := by decide +kernel
theorem dX5_findPairs_33 : decode cX5_findPairs 33 = .ok (.iload_n 2, 1) := by decide +kernel
theorem dX5_findPairs_34 : decode cX5_findPairs 34 = .ok (.ishl, 1) := by decide +kernel
theorem dX5_findPairs_35 : decode cX5_findPairs 35 = .ok (.iconst 1, 1) := by decide +kernel
theorem dX5_findPairs_36 : decode cX5_findPairs 36 = .ok (.iload_n 3, 1) := by decide +kernel
theorem dX5_findPairs_37 : decode cX5_findPairs 37 = .ok (.ishl, 1) := by decide +kernel
theorem dX5_findPairs_38 : decode cX5_findPairs 38 = .ok (.ior, 1) := by decide +kernel
theorem dX5_findPairs_39 : decode cX5_findPairs 39 = .ok (.istore 4, 2) := by decide +kernel
theorem dX5_findPairs_41 : decode cX5_findPairs 41 = .ok (.aload_n 1, 1) := by decide +kernel
theorem dX5_findPairs_42 : decode cX5_findPairs 42 = .ok (.iload 4, 2) := by decide +kernel
theorem dX5_findPairs_44 : decode cX5_findPairs 44 = .ok (.iconst 0, 1) := by decide +kernel
theorem dX5_findPairs_45 : decode cX5_findPairs 45 = .ok (.invokevirtual 61, 3) := by decide +kernel
theorem dX5_findPairs_48 : decode cX5_findPairs 48 = .ok (.ifCond .eq 6, 3) := by decide +kernel
theorem dX5_findPairs_51 : decode cX5_findPairs 51 = .ok (.goto 55, 3) := by decide +kernel
theorem dX5_findPairs_54 : decode cX5_findPairs 54 = .ok (.aload_n 1, 1) := by decide +kernel
theorem dX5_findPairs_55 : decode cX5_findPairs 55 = .ok (.iload 4, 2) := by decide +kernel
theorem dX5_findPairs_57 : decode cX5_findPairs 57 = .ok (.invokevirtual 65, 3) := by decide +kernel
theorem dX5_findPairs_60 : decode cX5_findPairs 60 = .ok (.ifCond .eq 16, 3) := by decide +kernel
theorem dX5_findPairs_63 : decode cX5_findPairs 63 = .ok (.aload_n 0, 1) := by decide +kernel
theorem dX5_findPairs_64 : decode cX5_findPairs 64 = .ok (.dup, 1) := by decide +kernel
theorem dX5_findPairs_65 : decode cX5_findPairs 65 = .ok (.getfield 58, 3) := by decide +kernel
theorem dX5_findPairs_68 : decode cX5_findPairs 68 = .ok (.iconst 1, 1) := by decide +kernel
theorem dX5_findPairs_69 : decode cX5_findPairs 69 = .ok (.iadd, 1) := by decide +kernel
theorem dX5_findPairs_70 : decode cX5_findPairs 70 = .ok (.putfield 58, 3) := by decide +kernel
theorem dX5_findPairs_73 : decode cX5_findPairs 73 = .ok (.goto 33, 3) := by decide +kernel
theorem dX5_findPairs_76 : decode cX5_findPairs 76 = .ok (.aload_n 0, 1) := by decide +kernel
theorem dX5_findPairs_77 : decode cX5_findPairs 77 = .ok (.getfield 24, 3) := by decide +kernel
theorem dX5_findPairs_80 : decode cX5_findPairs 80 = .ok (.aload_n 0, 1) := by decide +kernel
theorem dX5_findPairs_81 : decode cX5_findPairs 81 = .ok (.getfield 55, 3) := by decide +kernel
theorem dX5_findPairs_84 : decode cX5_findPairs 84 = .ok (.iload_n 2, 1) := by decide +kernel
theorem dX5_findPairs_85 : decode cX5_findPairs 85 = .ok (.iastore, 1) := by decide +kernel
theorem dX5_findPairs_86 : decode cX5_findPairs 86 = .ok (.aload_n 0, 1) := by decide +kernel
theorem dX5_findPairs_87 : decode cX5_findPairs 87 = .ok (.getfield 27, 3) := by decide +kernel
theorem dX5_findPairs_90 : decode cX5_findPairs 90 = .ok (.aload_n 0, 1) := by decide +kernel
theorem dX5_findPairs_91 : decode cX5_findPairs 91 = .ok (.getfield 55, 3) := by decide +kernel
theorem dX5_findPairs_94 : decode cX5_findPairs 94 = .ok (.iload_n 3, 1) := by decide +kernel
theorem dX5_findPairs_95 : decode cX5_findPairs 95 = .ok (.iastore, 1) := by decide +kernel
theorem dX5_findPairs_96 : decode cX5_findPairs 96 = .ok (.aload_n 0, 1) := by decide +kernel
theorem dX5_findPairs_97 : decode cX5_findPairs 97 = .ok (.dup, 1) := by decide +kernel
theorem dX5_findPairs_98 : decode cX5_findPairs 98 = .ok (.getfield 55, 3) := by decide +kernel
theorem dX5_findPairs_101 : decode cX5_findPairs 101 = .ok (.iconst 1, 1) := by decide +kernel
theorem dX5_findPairs_102 : decode cX5_findPairs 102 = .ok (.iadd, 1) := by decide +kernel
theorem dX5_findPairs_103 : decode cX5_findPairs 103 = .ok (.putfield 55, 3) := by decide +kernel
theorem dX5_findPairs_106 : decode cX5_findPairs 106 = .ok (.iinc 3 1, 3) := by decide +kernel
theorem dX5_findPairs_109 : decode cX5_findPairs 109 = .ok (.goto (-85), 3) := by decide +kernel
theorem dX5_findPairs_112 : decode cX5_findPairs 112 = .ok (.iinc 2 1, 3) := by decide +kernel
theorem dX5_findPairs_115 : decode cX5_findPairs 115 = .ok (.goto (-103), 3) := by decide +kernel
theorem dX5_findPairs_118 : decode cX5_findPairs 118 = .ok (.return_, 1) := by decide +kernel
set_option maxRecDepth 20000 in
theorem ggX5_giveLoad_X5_keepIfBetter : GoodIn wsX5_giveLoad wsX5_keepIfBetter := goodIn_r _ [11, 3, 2, 12, 13, 14, 15, 16, 17, 18, 1, 19, 20, 21, 22, 23, 24, 36, 37, 38, 39, 40, 41, 42, 43, 44] (by decide +kernel) (by decide +kernel)
set_option maxRecDepth 20000 in
theorem gX5_giveLoad_X5_keepIfBetter : GoodIn wsX5_giveLoad (wsV RX5 75 RX5 yX5_keepIfBetter wsX5_keepIfBetter) := goodIn_app (goodIn_of _ (by decide +kernel)) ggX5_giveLoad_X5_keepIfBetter
set_option maxRecDepth 20000 in
theorem ggX5_giveLoad_X10_hasPorterIn : GoodIn wsX5_giveLoad wsX10_hasPorterIn := goodIn_r _ [27] (by decide +kernel) (by decide +kernel)
set_option maxRecDepth 20000 in
theorem gX5_giveLoad_X10_hasPorterIn_n79 : GoodIn wsX5_giveLoad (wsX10_hasPorterIn) := ggX5_giveLoad_X10_hasPorterIn
set_option maxRecDepth 20000 in
theorem ggX5_giveLoad_X5_giveLoadTo : GoodIn wsX5_giveLoad wsX5_giveLoadTo := goodIn_r _ [31, 19, 12, 32, 33, 34, 35, 10, 0, 1, 2, 3, 4, 5, 6, 7, 8, 9, 11, 13, 14, 15, 16, 17, 18, 20, 21, 22, 23, 24, 25, 26, 27, 28, 29, 30, 36, 37, 38, 39, 40, 41, 42, 43, 44, 45, 46, 47, 48, 49, 50, 51, 52, 53, 54] (by decide +kernel) (by decide +kernel)
set_option maxRecDepth 20000 in
theorem gX5_giveLoad_X5_giveLoadTo : GoodIn wsX5_giveLoad (wsV RX5 83 RX5 yX5_giveLoadTo wsX5_giveLoadTo) := goodIn_app (goodIn_of _ (by decide +kernel)) ggX5_giveLoad_X5_giveLoadTo
theorem dX5_giveLoad_0 : decode cX5_giveLoad 0 = .ok (.aload_n 0, 1) := by decide +kernel
theorem dX5_giveLoad_1 : decode cX5_giveLoad 1 = .ok (.getfield 48, 3) := by decide +kernel
theorem dX5_giveLoad_4 : decode cX5_giveLoad 4 = .ok (.aload_n 0, 1) := by decide +kernel
theorem dX5_giveLoad_5 : decode cX5_giveLoad 5 = .ok (.getfield 55, 3) := by decide +kernel
theorem dX5_giveLoad_8 : decode cX5_giveLoad 8 = .ok (.aload_n 0, 1) := by decide +kernel
theorem dX5_giveLoad_9 : decode cX5_giveLoad 9 = .ok (.getfield 58, 3) := by decide +kernel
theorem dX5_giveLoad_12 : decode cX5_giveLoad 12 = .ok (.iadd, 1) := by decide +kernel
theorem dX5_giveLoad_13 : decode cX5_giveLoad 13 = .ok (.if_icmp .ne 4, 3) := by decide +kernel
theorem dX5_giveLoad_16 : decode cX5_giveLoad 16 = .ok (.return_, 1) := by decide +kernel
theorem dX5_giveLoad_17 : decode cX5_giveLoad 17 = .ok (.iload_n 2, 1) := by decide +kernel
theorem dX5_giveLoad_18 : decode cX5_giveLoad 18 = .ok (.aload_n 1, 1) := by decide +kernel
theorem dX5_giveLoad_19 : decode cX5_giveLoad 19 = .ok (.getfield 69, 3) := by decide +kernel
theorem dX5_giveLoad_22 : decode cX5_giveLoad 22 = .ok (.if_icmp .ge 8, 3) := by decide +kernel
theorem dX5_giveLoad_25 : decode cX5_giveLoad 25 = .ok (.iload_n 2, 1) := by decide +kernel
theorem dX5_giveLoad_26 : decode cX5_giveLoad 26 = .ok (.iconst 5, 1) := by decide +kernel
theorem dX5_giveLoad_27 : decode cX5_giveLoad 27 = .ok (.if_icmp .lt 14, 3) := by decide +kernel
theorem dX5_giveLoad_30 : decode cX5_giveLoad 30 = .ok (.aload_n 0, 1) := by decide +kernel
theorem dX5_giveLoad_31 : decode cX5_giveLoad 31 = .ok (.aload_n 1, 1) := by decide +kernel
theorem dX5_giveLoad_32 : decode cX5_giveLoad 32 = .ok (.getfield 72, 3) := by decide +kernel
theorem dX5_giveLoad_35 : decode cX5_giveLoad 35 = .ok (.iconst 0, 1) := by decide +kernel
theorem dX5_giveLoad_36 : decode cX5_giveLoad 36 = .ok (.iaload, 1) := by decide +kernel
theorem dX5_giveLoad_37 : decode cX5_giveLoad 37 = .ok (.invokevirtual 75, 3) := by decide +kernel
theorem dX5_giveLoad_40 : decode cX5_giveLoad 40 = .ok (.return_, 1) := by decide +kernel
theorem dX5_giveLoad_41 : decode cX5_giveLoad 41 = .ok (.iconst (-1), 1) := by decide +kernel
theorem dX5_giveLoad_42 : decode cX5_giveLoad 42 = .ok (.istore 4, 2) := by decide +kernel
theorem dX5_giveLoad_44 : decode cX5_giveLoad 44 = .ok (.iload 4, 2) := by decide +kernel
theorem dX5_giveLoad_46 : decode cX5_giveLoad 46 = .ok (.aload_n 1, 1) := by decide +kernel
theorem dX5_giveLoad_47 : decode cX5_giveLoad 47 = .ok (.getfield 34, 3) := by decide +kernel
theorem dX5_giveLoad_50 : decode cX5_giveLoad 50 = .ok (.if_icmp .ge 33, 3) := by decide +kernel
theorem dX5_giveLoad_53 : decode cX5_giveLoad 53 = .ok (.iload 4, 2) := by decide +kernel
theorem dX5_giveLoad_55 : decode cX5_giveLoad 55 = .ok (.iconst (-1), 1) := by decide +kernel
theorem dX5_giveLoad_56 : decode cX5_giveLoad 56 = .ok (.if_icmp .eq 12, 3) := by decide +kernel
theorem dX5_giveLoad_59 : decode cX5_giveLoad 59 = .ok (.iload_n 3, 1) := by decide +kernel
theorem dX5_giveLoad_60 : decode cX5_giveLoad 60 = .ok (.iload 4, 2) := by decide +kernel
theorem dX5_giveLoad_62 : decode cX5_giveLoad 62 = .ok (.invokestatic 79, 3) := by decide +kernel
theorem dX5_giveLoad_65 : decode cX5_giveLoad 65 = .ok (.ifCond .ne 12, 3) := by decide +kernel
theorem dX5_giveLoad_68 : decode cX5_giveLoad 68 = .ok (.aload_n 0, 1) := by decide +kernel
theorem dX5_giveLoad_69 : decode cX5_giveLoad 69 = .ok (.aload_n 1, 1) := by decide +kernel
theorem dX5_giveLoad_70 : decode cX5_giveLoad 70 = .ok (.iload_n 2, 1) := by decide +kernel
theorem dX5_giveLoad_71 : decode cX5_giveLoad 71 = .ok (.iload_n 3, 1) := by decide +kernel
theorem dX5_giveLoad_72 : decode cX5_giveLoad 72 = .ok (.iload 4, 2) := by decide +kernel
theorem dX5_giveLoad_74 : decode cX5_giveLoad 74 = .ok (.invokevirtual 83, 3) := by decide +kernel
theorem dX5_giveLoad_77 : decode cX5_giveLoad 77 = .ok (.iinc 4 1, 3) := by decide +kernel
theorem dX5_giveLoad_80 : decode cX5_giveLoad 80 = .ok (.goto (-36), 3) := by decide +kernel
theorem dX5_giveLoad_83 : decode cX5_giveLoad 83 = .ok (.return_, 1) := by decide +kernel
set_option maxRecDepth 20000 in
theorem ggX5_giveLoadTo_X5_giveLoad : GoodIn wsX5_giveLoadTo wsX5_giveLoad := goodIn_r _ [8, 9, 10, 11, 12, 13, 14, 15, 16, 17, 7, 18, 2, 19, 20, 21, 22, 23, 24, 1, 25, 26, 27, 28, 29, 30, 31, 32, 33, 34, 35, 0, 3, 4, 5, 6, 36, 37, 38, 39, 40, 41, 42, 43, 44, 45, 46, 47, 48, 49, 50, 51, 52, 53, 54] (by decide +kernel) (by decide +kernel)
set_option maxRecDepth 20000 in
theorem gX5_giveLoadTo_X5_giveLoad : GoodIn wsX5_giveLoadTo (wsV RX5 51 RX5 yX5_giveLoad wsX5_giveLoad) := goodIn_app (goodIn_of _ (by decide +kernel)) ggX5_giveLoadTo_X5_giveLoad
theorem dX5_giveLoadTo_0 : decode cX5_giveLoadTo 0 = .ok (.aload_n 0, 1) := by decide +kernel
theorem dX5_giveLoadTo_1 : decode cX5_giveLoadTo 1 = .ok (.getfield 15, 3) := by decide +kernel
theorem dX5_giveLoadTo_4 : decode cX5_giveLoadTo 4 = .ok (.iload_n 2, 1) := by decide +kernel
theorem dX5_giveLoadTo_5 : decode cX5_giveLoadTo 5 = .ok (.iload 4, 2) := by decide +kernel
theorem dX5_giveLoadTo_7 : decode cX5_giveLoadTo 7 = .ok (.iastore, 1) := by decide +kernel
theorem dX5_giveLoadTo_8 : decode cX5_giveLoadTo 8 = .ok (.iload 4, 2) := by decide +kernel
theorem dX5_giveLoadTo_10 : decode cX5_giveLoadTo 10 = .ok (.iconst (-1), 1) := by decide +kernel
theorem dX5_giveLoadTo_11 : decode cX5_giveLoadTo 11 = .ok (.if_icmp .ne 13, 3) := by decide +kernel
theorem dX5_giveLoadTo_14 : decode cX5_giveLoadTo 14 = .ok (.aload_n 0, 1) := by decide +kernel
theorem dX5_giveLoadTo_15 : decode cX5_giveLoadTo 15 = .ok (.aload_n 1, 1) := by decide +kernel
theorem dX5_giveLoadTo_16 : decode cX5_giveLoadTo 16 = .ok (.iload_n 2, 1) := by decide +kernel
theorem dX5_giveLoadTo_17 : decode cX5_giveLoadTo 17 = .ok (.iconst 1, 1) := by decide +kernel
theorem dX5_giveLoadTo_18 : decode cX5_giveLoadTo 18 = .ok (.iadd, 1) := by decide +kernel
theorem dX5_giveLoadTo_19 : decode cX5_giveLoadTo 19 = .ok (.iload_n 3, 1) := by decide +kernel
theorem dX5_giveLoadTo_20 : decode cX5_giveLoadTo 20 = .ok (.invokevirtual 51, 3) := by decide +kernel
theorem dX5_giveLoadTo_23 : decode cX5_giveLoadTo 23 = .ok (.return_, 1) := by decide +kernel
theorem dX5_giveLoadTo_24 : decode cX5_giveLoadTo 24 = .ok (.aload_n 0, 1) := by decide +kernel
theorem dX5_giveLoadTo_25 : decode cX5_giveLoadTo 25 = .ok (.getfield 18, 3) := by decide +kernel
theorem dX5_giveLoadTo_28 : decode cX5_giveLoadTo 28 = .ok (.iload 4, 2) := by decide +kernel
theorem dX5_giveLoadTo_30 : decode cX5_giveLoadTo 30 = .ok (.dup2, 1) := by decide +kernel
theorem dX5_giveLoadTo_31 : decode cX5_giveLoadTo 31 = .ok (.iaload, 1) := by decide +kernel
theorem dX5_giveLoadTo_32 : decode cX5_giveLoadTo 32 = .ok (.aload_n 1, 1) := by decide +kernel
theorem dX5_giveLoadTo_33 : decode cX5_giveLoadTo 33 = .ok (.getfield 87, 3) := by decide +kernel
theorem dX5_giveLoadTo_36 : decode cX5_giveLoadTo 36 = .ok (.iload_n 2, 1) := by decide +kernel
theorem dX5_giveLoadTo_37 : decode cX5_giveLoadTo 37 = .ok (.iaload, 1) := by decide +kernel
theorem dX5_giveLoadTo_38 : decode cX5_giveLoadTo 38 = .ok (.iadd, 1) := by decide +kernel
theorem dX5_giveLoadTo_39 : decode cX5_giveLoadTo 39 = .ok (.iastore, 1) := by decide +kernel
theorem dX5_giveLoadTo_40 : decode cX5_giveLoadTo 40 = .ok (.aload_n 0, 1) := by decide +kernel
theorem dX5_giveLoadTo_41 : decode cX5_giveLoadTo 41 = .ok (.aload_n 1, 1) := by decide +kernel
theorem dX5_giveLoadTo_42 : decode cX5_giveLoadTo 42 = .ok (.iload_n 2, 1) := by decide +kernel
theorem dX5_giveLoadTo_43 : decode cX5_giveLoadTo 43 = .ok (.iconst 1, 1) := by decide +kernel
theorem dX5_giveLoadTo_44 : decode cX5_giveLoadTo 44 = .ok (.iadd, 1) := by decide +kernel
theorem dX5_giveLoadTo_45 : decode cX5_giveLoadTo 45 = .ok (.iload_n 3, 1) := by decide +kernel
theorem dX5_giveLoadTo_46 : decode cX5_giveLoadTo 46 = .ok (.iconst 1, 1) := by decide +kernel
theorem dX5_giveLoadTo_47 : decode cX5_giveLoadTo 47 = .ok (.iload 4, 2) := by decide +kernel
theorem dX5_giveLoadTo_49 : decode cX5_giveLoadTo 49 = .ok (.ishl, 1) := by decide +kernel
theorem dX5_giveLoadTo_50 : decode cX5_giveLoadTo 50 = .ok (.ior, 1) := by decide +kernel
theorem dX5_giveLoadTo_51 : decode cX5_giveLoadTo 51 = .ok (.invokevirtual 51, 3) := by decide +kernel
theorem dX5_giveLoadTo_54 : decode cX5_giveLoadTo 54 = .ok (.aload_n 0, 1) := by decide +kernel
theorem dX5_giveLoadTo_55 : decode cX5_giveLoadTo 55 = .ok (.getfield 18, 3) := by decide +kernel
theorem dX5_giveLoadTo_58 : decode cX5_giveLoadTo 58 = .ok (.iload 4, 2) := by decide +kernel
theorem dX5_giveLoadTo_60 : decode cX5_giveLoadTo 60 = .ok (.dup2, 1) := by decide +kernel
theorem dX5_giveLoadTo_61 : decode cX5_giveLoadTo 61 = .ok (.iaload, 1) := by decide +kernel
theorem dX5_giveLoadTo_62 : decode cX5_giveLoadTo 62 = .ok (.aload_n 1, 1) := by decide +kernel
theorem dX5_giveLoadTo_63 : decode cX5_giveLoadTo 63 = .ok (.getfield 87, 3) := by decide +kernel
theorem dX5_giveLoadTo_66 : decode cX5_giveLoadTo 66 = .ok (.iload_n 2, 1) := by decide +kernel
theorem dX5_giveLoadTo_67 : decode cX5_giveLoadTo 67 = .ok (.iaload, 1) := by decide +kernel
theorem dX5_giveLoadTo_68 : decode cX5_giveLoadTo 68 = .ok (.isub, 1) := by decide +kernel
theorem dX5_giveLoadTo_69 : decode cX5_giveLoadTo 69 = .ok (.iastore, 1) := by decide +kernel
theorem dX5_giveLoadTo_70 : decode cX5_giveLoadTo 70 = .ok (.return_, 1) := by decide +kernel
theorem dX5_keepIfBetter_0 : decode cX5_keepIfBetter 0 = .ok (.aload_n 0, 1) := by decide +kernel
theorem dX5_keepIfBetter_1 : decode cX5_keepIfBetter 1 = .ok (.getfield 58, 3) := by decide +kernel
theorem dX5_keepIfBetter_4 : decode cX5_keepIfBetter 4 = .ok (.istore_n 2, 1) := by decide +kernel
theorem dX5_keepIfBetter_5 : decode cX5_keepIfBetter 5 = .ok (.iconst 0, 1) := by decide +kernel
theorem dX5_keepIfBetter_6 : decode cX5_keepIfBetter 6 = .ok (.istore_n 3, 1) := by decide +kernel
theorem dX5_keepIfBetter_7 : decode cX5_keepIfBetter 7 = .ok (.iload_n 3, 1) := by decide +kernel
theorem dX5_keepIfBetter_8 : decode cX5_keepIfBetter 8 = .ok (.aload_n 0, 1) := by decide +kernel
theorem dX5_keepIfBetter_9 : decode cX5_keepIfBetter 9 = .ok (.getfield 55, 3) := by decide +kernel
theorem dX5_keepIfBetter_12 : decode cX5_keepIfBetter 12 = .ok (.if_icmp .ge 42, 3) := by decide +kernel
theorem dX5_keepIfBetter_15 : decode cX5_keepIfBetter 15 = .ok (.aload_n 0, 1) := by decide +kernel
theorem dX5_keepIfBetter_16 : decode cX5_keepIfBetter 16 = .ok (.getfield 18, 3) := by decide +kernel
theorem dX5_keepIfBetter_19 : decode cX5_keepIfBetter 19 = .ok (.aload_n 0, 1) := by decide +kernel
theorem dX5_keepIfBetter_20 : decode cX5_keepIfBetter 20 = .ok (.getfield 24, 3) := by decide +kernel
theorem dX5_keepIfBetter_23 : decode cX5_keepIfBetter 23 = .ok (.iload_n 3, 1) := by decide +kernel
theorem dX5_keepIfBetter_24 : decode cX5_keepIfBetter 24 = .ok (.iaload, 1) := by decide +kernel
theorem dX5_keepIfBetter_25 : decode cX5_keepIfBetter 25 = .ok (.iaload, 1) := by decide +kernel
theorem dX5_keepIfBetter_26 : decode cX5_keepIfBetter 26 = .ok (.aload_n 0, 1) := by decide +kernel
theorem dX5_keepIfBetter_27 : decode cX5_keepIfBetter 27 = .ok (.getfield 18, 3) := by decide +kernel
theorem dX5_keepIfBetter_30 : decode cX5_keepIfBetter 30 = .ok (.aload_n 0, 1) := by decide +kernel
theorem dX5_keepIfBetter_31 : decode cX5_keepIfBetter 31 = .ok (.getfield 27, 3) := by decide +kernel
theorem dX5_keepIfBetter_34 : decode cX5_keepIfBetter 34 = .ok (.iload_n 3, 1) := by decide +kernel
theorem dX5_keepIfBetter_35 : decode cX5_keepIfBetter 35 = .ok (.iaload, 1) := by decide +kernel
theorem dX5_keepIfBetter_36 : decode cX5_keepIfBetter 36 = .ok (.iaload, 1) := by decide +kernel
theorem dX5_keepIfBetter_37 : decode cX5_keepIfBetter 37 = .ok (.isub, 1) := by decide +kernel
theorem dX5_keepIfBetter_38 : decode cX5_keepIfBetter 38 = .ok (.invokestatic 90, 3) := by decide +kernel
theorem dX5_keepIfBetter_41 : decode cX5_keepIfBetter 41 = .ok (.iload_n 1, 1) := by decide +kernel
theorem dX5_keepIfBetter_42 : decode cX5_keepIfBetter 42 = .ok (.if_icmp .lt 6, 3) := by decide +kernel
theorem dX5_keepIfBetter_45 : decode cX5_keepIfBetter 45 = .ok (.iinc 2 1, 3) := by decide +kernel
theorem dX5_keepIfBetter_48 : decode cX5_keepIfBetter 48 = .ok (.iinc 3 1, 3) := by decide +kernel
theorem dX5_keepIfBetter_51 : decode cX5_keepIfBetter 51 = .ok (.goto (-44), 3) := by decide +kernel
theorem dX5_keepIfBetter_54 : decode cX5_keepIfBetter 54 = .ok (.iload_n 2, 1) := by decide +kernel
theorem dX5_keepIfBetter_55 : decode cX5_keepIfBetter 55 = .ok (.aload_n 0, 1) := by decide +kernel
theorem dX5_keepIfBetter_56 : decode cX5_keepIfBetter 56 = .ok (.getfield 48, 3) := by decide +kernel
theorem dX5_keepIfBetter_59 : decode cX5_keepIfBetter 59 = .ok (.if_icmp .le 22, 3) := by decide +kernel
theorem dX5_keepIfBetter_62 : decode cX5_keepIfBetter 62 = .ok (.aload_n 0, 1) := by decide +kernel
theorem dX5_keepIfBetter_63 : decode cX5_keepIfBetter 63 = .ok (.iload_n 2, 1) := by decide +kernel
theorem dX5_keepIfBetter_64 : decode cX5_keepIfBetter 64 = .ok (.putfield 48, 3) := by decide +kernel
theorem dX5_keepIfBetter_67 : decode cX5_keepIfBetter 67 = .ok (.aload_n 0, 1) := by decide +kernel
theorem dX5_keepIfBetter_68 : decode cX5_keepIfBetter 68 = .ok (.getfield 15, 3) := by decide +kernel
theorem dX5_keepIfBetter_71 : decode cX5_keepIfBetter 71 = .ok (.iconst 0, 1) := by decide +kernel
theorem dX5_keepIfBetter_72 : decode cX5_keepIfBetter 72 = .ok (.aload_n 0, 1) := by decide +kernel
theorem dX5_keepIfBetter_73 : decode cX5_keepIfBetter 73 = .ok (.getfield 9, 3) := by decide +kernel
theorem dX5_keepIfBetter_76 : decode cX5_keepIfBetter 76 = .ok (.iconst 0, 1) := by decide +kernel
theorem dX5_keepIfBetter_77 : decode cX5_keepIfBetter 77 = .ok (.iconst 5, 1) := by decide +kernel
theorem dX5_keepIfBetter_78 : decode cX5_keepIfBetter 78 = .ok (.invokestatic 96, 3) := by decide +kernel
theorem dX5_keepIfBetter_81 : decode cX5_keepIfBetter 81 = .ok (.return_, 1) := by decide +kernel
