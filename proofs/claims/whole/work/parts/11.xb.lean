theorem dX7_init_0 : decode cX7_init 0 = .ok (.aload_n 0, 1) := by decide +kernel
theorem dX7_init_1 : decode cX7_init 1 = .ok (.invokespecial 3, 3) := by decide +kernel
theorem dX7_init_4 : decode cX7_init 4 = .ok (.aload_n 0, 1) := by decide +kernel
theorem dX7_init_5 : decode cX7_init 5 = .ok (.sipush 240, 3) := by decide +kernel
theorem dX7_init_8 : decode cX7_init 8 = .ok (.newarray .int, 2) := by decide +kernel
theorem dX7_init_10 : decode cX7_init 10 = .ok (.putfield 9, 3) := by decide +kernel
theorem dX7_init_13 : decode cX7_init 13 = .ok (.aload_n 0, 1) := by decide +kernel
theorem dX7_init_14 : decode cX7_init 14 = .ok (.sipush 240, 3) := by decide +kernel
theorem dX7_init_17 : decode cX7_init 17 = .ok (.newarray .long, 2) := by decide +kernel
theorem dX7_init_19 : decode cX7_init 19 = .ok (.putfield 15, 3) := by decide +kernel
theorem dX7_init_22 : decode cX7_init 22 = .ok (.aload_n 0, 1) := by decide +kernel
theorem dX7_init_23 : decode cX7_init 23 = .ok (.sipush 241, 3) := by decide +kernel
theorem dX7_init_26 : decode cX7_init 26 = .ok (.newarray .long, 2) := by decide +kernel
theorem dX7_init_28 : decode cX7_init 28 = .ok (.putfield 19, 3) := by decide +kernel
theorem dX7_init_31 : decode cX7_init 31 = .ok (.aload_n 0, 1) := by decide +kernel
theorem dX7_init_32 : decode cX7_init 32 = .ok (.sipush 15424, 3) := by decide +kernel
theorem dX7_init_35 : decode cX7_init 35 = .ok (.newarray .int, 2) := by decide +kernel
theorem dX7_init_37 : decode cX7_init 37 = .ok (.putfield 22, 3) := by decide +kernel
theorem dX7_init_40 : decode cX7_init 40 = .ok (.aload_n 0, 1) := by decide +kernel
theorem dX7_init_41 : decode cX7_init 41 = .ok (.bipush 64, 2) := by decide +kernel
theorem dX7_init_43 : decode cX7_init 43 = .ok (.newarray .int, 2) := by decide +kernel
theorem dX7_init_45 : decode cX7_init 45 = .ok (.putfield 25, 3) := by decide +kernel
theorem dX7_init_48 : decode cX7_init 48 = .ok (.aload_n 0, 1) := by decide +kernel
theorem dX7_init_49 : decode cX7_init 49 = .ok (.bipush 64, 2) := by decide +kernel
theorem dX7_init_51 : decode cX7_init 51 = .ok (.newarray .int, 2) := by decide +kernel
theorem dX7_init_53 : decode cX7_init 53 = .ok (.putfield 28, 3) := by decide +kernel
theorem dX7_init_56 : decode cX7_init 56 = .ok (.return_, 1) := by decide +kernel
set_option maxRecDepth 20000 in
theorem ggX7_plan_X1_minutesOf : GoodIn wsX7_plan wsX1_minutesOf := goodIn_r _ [13, 14, 15, 16, 17, 18, 19, 20, 21, 22, 23, 24, 25, 26, 27, 28, 29, 30, 31, 32, 33, 34, 35, 36, 37, 38, 39, 40, 41, 213, 214, 215, 216, 217, 218, 219, 220, 221, 222, 223, 224, 225, 226, 227, 228, 229, 230, 231, 232, 233, 234, 235, 236, 237, 238, 239, 240, 241, 242, 243, 244, 245, 246] (by decide +kernel) (by decide +kernel)
set_option maxRecDepth 20000 in
theorem gX7_plan_X1_minutesOf : GoodIn wsX7_plan (wsV RX7 45 RX1 yX1_minutesOf wsX1_minutesOf) := goodIn_app (goodIn_of _ (by decide +kernel)) ggX7_plan_X1_minutesOf
set_option maxRecDepth 20000 in
theorem ggX7_plan_X1_hireOf : GoodIn wsX7_plan wsX1_hireOf := goodIn_r _ [45, 14, 15, 46, 20, 21, 22, 213, 214, 215, 216, 217, 218, 219, 220, 221, 222, 223, 224, 225, 226, 227, 228, 229, 230, 231, 232, 233, 234, 235, 236, 237, 238, 239, 240, 241, 242, 243, 244, 245, 246] (by decide +kernel) (by decide +kernel)
set_option maxRecDepth 20000 in
theorem gX7_plan_X1_hireOf : GoodIn wsX7_plan (wsV RX7 50 RX1 yX1_hireOf wsX1_hireOf) := goodIn_app (goodIn_of _ (by decide +kernel)) ggX7_plan_X1_hireOf
set_option maxRecDepth 20000 in
theorem ggX7_plan_X7_findOpen : GoodIn wsX7_plan wsX7_findOpen := goodIn_r _ [51, 52, 53, 54, 55, 56, 57, 58, 59, 60, 12, 61, 14, 62, 63, 64, 65, 66, 67, 68, 69, 70, 71, 72, 73, 74, 75, 76, 77, 78, 79, 80, 81, 15, 20, 21, 22, 82, 83, 84, 85, 86, 87, 88, 89, 90, 91, 27, 92, 93, 94, 95, 96, 97, 98, 99, 100, 101, 102, 103, 104, 105, 18, 106, 107, 108, 109, 110, 111, 112, 113, 114, 115, 116, 117, 118, 119, 120, 121, 122, 123, 124, 125, 126, 127, 128, 129, 130, 131, 132, 133, 134, 135, 136, 137, 138, 139, 140, 141, 142, 143, 144, 145, 146, 147, 148, 10, 11, 13, 16, 17, 19, 23, 24, 25, 26, 28, 29, 30, 31, 32, 33, 34, 35, 36, 37, 38, 39, 40, 41, 201, 202, 203, 204, 205, 206, 207, 208, 209, 210, 211, 212, 213, 214, 215, 216, 217, 218, 219, 220, 221, 222, 223, 224, 225, 226, 227, 228, 229, 230, 231, 232, 233, 234, 235, 236, 237, 238, 239, 240, 241, 242, 243, 244, 245, 246] (by decide +kernel) (by decide +kernel)
set_option maxRecDepth 20000 in
theorem gX7_plan_X7_findOpen : GoodIn wsX7_plan (wsV RX7 52 RX7 yX7_findOpen wsX7_findOpen) := goodIn_app (goodIn_of _ (by decide +kernel)) ggX7_plan_X7_findOpen
set_option maxRecDepth 20000 in
theorem ggX7_plan_X10_withAllOf : GoodIn wsX7_plan wsX10_withAllOf := goodIn_r _ [150, 151, 152, 153, 20, 21, 22] (by decide +kernel) (by decide +kernel)
set_option maxRecDepth 20000 in
theorem gX7_plan_X10_withAllOf_n56 : GoodIn wsX7_plan (wsX10_withAllOf) := ggX7_plan_X10_withAllOf
set_option maxRecDepth 20000 in
theorem ggX7_plan_X7_findMinutes : GoodIn wsX7_plan wsX7_findMinutes := goodIn_r _ [157, 8, 158, 4, 54, 55, 56, 57, 159, 160, 161, 50, 162, 52, 163, 21, 164, 151, 152, 153, 20, 22, 201, 202, 203, 204, 205, 206, 207, 208, 209, 210, 211, 212] (by decide +kernel) (by decide +kernel)
set_option maxRecDepth 20000 in
theorem gX7_plan_X7_findMinutes : GoodIn wsX7_plan (wsV RX7 60 RX7 yX7_findMinutes wsX7_findMinutes) := goodIn_app (goodIn_of _ (by decide +kernel)) ggX7_plan_X7_findMinutes
set_option maxRecDepth 20000 in
theorem ggX7_plan_X7_keepUseful : GoodIn wsX7_plan wsX7_keepUseful := goodIn_r _ [168, 158, 8, 4, 159, 160, 161, 50, 162, 52, 163, 21, 164, 151, 152, 153, 20, 22, 201, 202, 203, 204, 205, 206, 207, 208, 209, 210, 211, 212] (by decide +kernel) (by decide +kernel)
set_option maxRecDepth 20000 in
theorem gX7_plan_X7_keepUseful : GoodIn wsX7_plan (wsV RX7 73 RX7 yX7_keepUseful wsX7_keepUseful) := goodIn_app (goodIn_of _ (by decide +kernel)) ggX7_plan_X7_keepUseful
set_option maxRecDepth 20000 in
theorem ggX7_plan_X7_findHires : GoodIn wsX7_plan wsX7_findHires := goodIn_r _ [172, 8, 158, 173, 6, 174, 175, 176, 50, 177, 178, 179, 18, 180, 181, 182, 183, 184, 185, 159, 160, 161, 162, 52, 4, 186, 21, 187, 188, 189, 190, 191, 5, 201, 202, 203, 204, 205, 206, 207, 208, 209, 210, 211, 212] (by decide +kernel) (by decide +kernel)
set_option maxRecDepth 20000 in
theorem gX7_plan_X7_findHires : GoodIn wsX7_plan (wsV RX7 76 RX7 yX7_findHires wsX7_findHires) := goodIn_app (goodIn_of _ (by decide +kernel)) ggX7_plan_X7_findHires
set_option maxRecDepth 20000 in
theorem ggX7_plan_X7_findRow : GoodIn wsX7_plan wsX7_findRow := goodIn_r _ [195, 8, 7, 196, 4, 197, 198, 199, 50, 200, 159, 160, 161, 162, 52, 186, 21, 187, 188, 189, 190, 191, 5, 181, 182, 183, 184, 158, 173, 185, 201, 202, 203, 204, 205, 206, 207, 208, 209, 210, 211, 212] (by decide +kernel) (by decide +kernel)
set_option maxRecDepth 20000 in
theorem gX7_plan_X7_findRow : GoodIn wsX7_plan (wsV RX7 79 RX7 yX7_findRow wsX7_findRow) := goodIn_app (goodIn_of _ (by decide +kernel)) ggX7_plan_X7_findRow
theorem dX7_plan_0 : decode cX7_plan 0 = .ok (.aload_n 0, 1) := by decide +kernel
theorem dX7_plan_1 : decode cX7_plan 1 = .ok (.getfield 31, 3) := by decide +kernel
theorem dX7_plan_4 : decode cX7_plan 4 = .ok (.ifCond .eq 20, 3) := by decide +kernel
theorem dX7_plan_7 : decode cX7_plan 7 = .ok (.aload_n 0, 1) := by decide +kernel
theorem dX7_plan_8 : decode cX7_plan 8 = .ok (.getfield 35, 3) := by decide +kernel
theorem dX7_plan_11 : decode cX7_plan 11 = .ok (.iload_n 2, 1) := by decide +kernel
theorem dX7_plan_12 : decode cX7_plan 12 = .ok (.if_icmp .ne 12, 3) := by decide +kernel
theorem dX7_plan_15 : decode cX7_plan 15 = .ok (.aload_n 0, 1) := by decide +kernel
theorem dX7_plan_16 : decode cX7_plan 16 = .ok (.getfield 39, 3) := by decide +kernel
theorem dX7_plan_19 : decode cX7_plan 19 = .ok (.iload_n 3, 1) := by decide +kernel
theorem dX7_plan_20 : decode cX7_plan 20 = .ok (.if_icmp .ne 4, 3) := by decide +kernel
theorem dX7_plan_23 : decode cX7_plan 23 = .ok (.return_, 1) := by decide +kernel
theorem dX7_plan_24 : decode cX7_plan 24 = .ok (.aload_n 0, 1) := by decide +kernel
theorem dX7_plan_25 : decode cX7_plan 25 = .ok (.iconst 1, 1) := by decide +kernel
theorem dX7_plan_26 : decode cX7_plan 26 = .ok (.putfield 31, 3) := by decide +kernel
theorem dX7_plan_29 : decode cX7_plan 29 = .ok (.aload_n 0, 1) := by decide +kernel
theorem dX7_plan_30 : decode cX7_plan 30 = .ok (.iload_n 2, 1) := by decide +kernel
theorem dX7_plan_31 : decode cX7_plan 31 = .ok (.putfield 35, 3) := by decide +kernel
theorem dX7_plan_34 : decode cX7_plan 34 = .ok (.aload_n 0, 1) := by decide +kernel
theorem dX7_plan_35 : decode cX7_plan 35 = .ok (.iload_n 3, 1) := by decide +kernel
theorem dX7_plan_36 : decode cX7_plan 36 = .ok (.putfield 39, 3) := by decide +kernel
theorem dX7_plan_39 : decode cX7_plan 39 = .ok (.getstatic 42, 3) := by decide +kernel
theorem dX7_plan_42 : decode cX7_plan 42 = .ok (.astore 4, 2) := by decide +kernel
theorem dX7_plan_44 : decode cX7_plan 44 = .ok (.aload 4, 2) := by decide +kernel
theorem dX7_plan_46 : decode cX7_plan 46 = .ok (.arraylength, 1) := by decide +kernel
theorem dX7_plan_47 : decode cX7_plan 47 = .ok (.istore 5, 2) := by decide +kernel
theorem dX7_plan_49 : decode cX7_plan 49 = .ok (.iconst 0, 1) := by decide +kernel
theorem dX7_plan_50 : decode cX7_plan 50 = .ok (.istore 6, 2) := by decide +kernel
theorem dX7_plan_52 : decode cX7_plan 52 = .ok (.iload 6, 2) := by decide +kernel
theorem dX7_plan_54 : decode cX7_plan 54 = .ok (.iload 5, 2) := by decide +kernel
theorem dX7_plan_56 : decode cX7_plan 56 = .ok (.if_icmp .ge 42, 3) := by decide +kernel
theorem dX7_plan_59 : decode cX7_plan 59 = .ok (.aload 4, 2) := by decide +kernel
theorem dX7_plan_61 : decode cX7_plan 61 = .ok (.iload 6, 2) := by decide +kernel
theorem dX7_plan_63 : decode cX7_plan 63 = .ok (.iaload, 1) := by decide +kernel
theorem dX7_plan_64 : decode cX7_plan 64 = .ok (.istore 7, 2) := by decide +kernel
theorem dX7_plan_66 : decode cX7_plan 66 = .ok (.aload_n 0, 1) := by decide +kernel
theorem dX7_plan_67 : decode cX7_plan 67 = .ok (.getfield 25, 3) := by decide +kernel
theorem dX7_plan_70 : decode cX7_plan 70 = .ok (.iload 7, 2) := by decide +kernel
theorem dX7_plan_72 : decode cX7_plan 72 = .ok (.aload_n 1, 1) := by decide +kernel
theorem dX7_plan_73 : decode cX7_plan 73 = .ok (.iload 7, 2) := by decide +kernel
theorem dX7_plan_75 : decode cX7_plan 75 = .ok (.invokevirtual 45, 3) := by decide +kernel
theorem dX7_plan_78 : decode cX7_plan 78 = .ok (.iastore, 1) := by decide +kernel
theorem dX7_plan_79 : decode cX7_plan 79 = .ok (.aload_n 0, 1) := by decide +kernel
theorem dX7_plan_80 : decode cX7_plan 80 = .ok (.getfield 28, 3) := by decide +kernel
theorem dX7_plan_83 : decode cX7_plan 83 = .ok (.iload 7, 2) := by decide +kernel
theorem dX7_plan_85 : decode cX7_plan 85 = .ok (.aload_n 1, 1) := by decide +kernel
theorem dX7_plan_86 : decode cX7_plan 86 = .ok (.iload 7, 2) := by decide +kernel
theorem dX7_plan_88 : decode cX7_plan 88 = .ok (.invokevirtual 50, 3) := by decide +kernel
theorem dX7_plan_91 : decode cX7_plan 91 = .ok (.iastore, 1) := by decide +kernel
theorem dX7_plan_92 : decode cX7_plan 92 = .ok (.iinc 6 1, 3) := by decide +kernel
theorem dX7_plan_95 : decode cX7_plan 95 = .ok (.goto (-43), 3) := by decide +kernel
theorem dX7_plan_98 : decode cX7_plan 98 = .ok (.aload_n 0, 1) := by decide +kernel
theorem dX7_plan_99 : decode cX7_plan 99 = .ok (.aload_n 1, 1) := by decide +kernel
theorem dX7_plan_100 : decode cX7_plan 100 = .ok (.iload_n 3, 1) := by decide +kernel
theorem dX7_plan_101 : decode cX7_plan 101 = .ok (.invokevirtual 52, 3) := by decide +kernel
theorem dX7_plan_104 : decode cX7_plan 104 = .ok (.aload_n 0, 1) := by decide +kernel
theorem dX7_plan_105 : decode cX7_plan 105 = .ok (.iload_n 2, 1) := by decide +kernel
theorem dX7_plan_106 : decode cX7_plan 106 = .ok (.invokestatic 56, 3) := by decide +kernel
theorem dX7_plan_109 : decode cX7_plan 109 = .ok (.invokevirtual 60, 3) := by decide +kernel
theorem dX7_plan_112 : decode cX7_plan 112 = .ok (.aload_n 0, 1) := by decide +kernel
theorem dX7_plan_113 : decode cX7_plan 113 = .ok (.iconst 0, 1) := by decide +kernel
theorem dX7_plan_114 : decode cX7_plan 114 = .ok (.putfield 64, 3) := by decide +kernel
theorem dX7_plan_117 : decode cX7_plan 117 = .ok (.aload_n 0, 1) := by decide +kernel
theorem dX7_plan_118 : decode cX7_plan 118 = .ok (.iconst 0, 1) := by decide +kernel
theorem dX7_plan_119 : decode cX7_plan 119 = .ok (.putfield 67, 3) := by decide +kernel
theorem dX7_plan_122 : decode cX7_plan 122 = .ok (.aload_n 0, 1) := by decide +kernel
theorem dX7_plan_123 : decode cX7_plan 123 = .ok (.getfield 70, 3) := by decide +kernel
theorem dX7_plan_126 : decode cX7_plan 126 = .ok (.iconst (-1), 1) := by decide +kernel
theorem dX7_plan_127 : decode cX7_plan 127 = .ok (.if_icmp .eq 19, 3) := by decide +kernel
theorem dX7_plan_130 : decode cX7_plan 130 = .ok (.aload_n 0, 1) := by decide +kernel
theorem dX7_plan_131 : decode cX7_plan 131 = .ok (.iload_n 2, 1) := by decide +kernel
theorem dX7_plan_132 : decode cX7_plan 132 = .ok (.invokestatic 56, 3) := by decide +kernel
theorem dX7_plan_135 : decode cX7_plan 135 = .ok (.invokevirtual 73, 3) := by decide +kernel
theorem dX7_plan_138 : decode cX7_plan 138 = .ok (.aload_n 0, 1) := by decide +kernel
theorem dX7_plan_139 : decode cX7_plan 139 = .ok (.invokevirtual 76, 3) := by decide +kernel
theorem dX7_plan_142 : decode cX7_plan 142 = .ok (.aload_n 0, 1) := by decide +kernel
theorem dX7_plan_143 : decode cX7_plan 143 = .ok (.invokevirtual 79, 3) := by decide +kernel
theorem dX7_plan_146 : decode cX7_plan 146 = .ok (.return_, 1) := by decide +kernel
set_option maxRecDepth 20000 in
theorem ggX7_findOpen_J7_fill_d0a16 : GoodIn wsX7_findOpen wsJ7_fill_d0a16 := goodIn_r _ [6] (by decide +kernel) (by decide +kernel)
set_option maxRecDepth 20000 in
theorem gX7_findOpen_J7_fill_d0a16 : GoodIn wsX7_findOpen (va_wsS RX7 82 yJ7_fill_d0a16 wsJ7_fill_d0a16) := goodIn_app (goodIn_of _ (by decide +kernel)) ggX7_findOpen_J7_fill_d0a16
set_option maxRecDepth 20000 in
theorem ggX7_findOpen_X1_hasSet : GoodIn wsX7_findOpen wsX1_hasSet := goodIn_r _ [11, 12, 142, 143, 144, 145, 146, 147, 148, 149, 150, 151] (by decide +kernel) (by decide +kernel)
set_option maxRecDepth 20000 in
theorem gX7_findOpen_X1_hasSet : GoodIn wsX7_findOpen (wsV RX7 88 RX1 yX1_hasSet wsX1_hasSet) := goodIn_app (goodIn_of _ (by decide +kernel)) ggX7_findOpen_X1_hasSet
set_option maxRecDepth 20000 in
theorem ggX7_findOpen_X1_isNight : GoodIn wsX7_findOpen wsX1_isNight := goodIn_r _ [16, 17, 142, 143, 144, 145, 146, 147, 148, 149, 150, 151] (by decide +kernel) (by decide +kernel)
set_option maxRecDepth 20000 in
theorem gX7_findOpen_X1_isNight : GoodIn wsX7_findOpen (wsV RX7 95 RX1 yX1_isNight wsX1_isNight) := goodIn_app (goodIn_of _ (by decide +kernel)) ggX7_findOpen_X1_isNight
set_option maxRecDepth 20000 in
theorem ggX7_findOpen_X1_whyNot : GoodIn wsX7_findOpen wsX1_whyNot := goodIn_r _ [21, 22, 23, 24, 25, 26, 27, 28, 29, 30, 31, 10, 32, 12, 33, 34, 35, 36, 37, 38, 39, 40, 41, 42, 43, 44, 45, 46, 47, 48, 49, 50, 51, 52, 53, 54, 55, 56, 57, 58, 59, 60, 61, 62, 63, 17, 64, 65, 66, 67, 68, 69, 70, 71, 72, 73, 74, 75, 76, 77, 78, 79, 80, 81, 82, 83, 84, 85, 86, 87, 88, 89, 90, 91, 92, 93, 94, 95, 96, 97, 98, 99, 100, 101, 102, 103, 104, 105, 106, 107, 108, 109, 110, 111, 112, 113, 114, 115, 116, 117, 118, 119, 120, 121, 122, 123, 124, 125, 126, 127, 128, 129, 142, 143, 144, 145, 146, 147, 148, 149, 150, 151, 152, 153, 154, 155, 156, 157, 158, 159, 160, 161, 162, 163, 164, 165, 166, 167, 168, 169, 170, 171, 172, 173, 174, 175] (by decide +kernel) (by decide +kernel)
set_option maxRecDepth 20000 in
theorem gX7_findOpen_X1_whyNot : GoodIn wsX7_findOpen (wsV RX7 98 RX1 yX1_whyNot wsX1_whyNot) := goodIn_app (goodIn_of _ (by decide +kernel)) ggX7_findOpen_X1_whyNot
theorem dX7_findOpen_0 : decode cX7_findOpen 0 = .ok (.aload_n 0, 1) := by decide +kernel
theorem dX7_findOpen_1 : decode cX7_findOpen 1 = .ok (.getfield 15, 3) := by decide +kernel
theorem dX7_findOpen_4 : decode cX7_findOpen 4 = .ok (.lconst 0, 1) := by decide +kernel
theorem dX7_findOpen_5 : decode cX7_findOpen 5 = .ok (.invokestatic 82, 3) := by decide +kernel
theorem dX7_findOpen_8 : decode cX7_findOpen 8 = .ok (.getstatic 42, 3) := by decide +kernel
theorem dX7_findOpen_11 : decode cX7_findOpen 11 = .ok (.astore_n 3, 1) := by decide +kernel
theorem dX7_findOpen_12 : decode cX7_findOpen 12 = .ok (.aload_n 3, 1) := by decide +kernel
theorem dX7_findOpen_13 : decode cX7_findOpen 13 = .ok (.arraylength, 1) := by decide +kernel
theorem dX7_findOpen_14 : decode cX7_findOpen 14 = .ok (.istore 4, 2) := by decide +kernel
theorem dX7_findOpen_16 : decode cX7_findOpen 16 = .ok (.iconst 0, 1) := by decide +kernel
theorem dX7_findOpen_17 : decode cX7_findOpen 17 = .ok (.istore 5, 2) := by decide +kernel
theorem dX7_findOpen_19 : decode cX7_findOpen 19 = .ok (.iload 5, 2) := by decide +kernel
theorem dX7_findOpen_21 : decode cX7_findOpen 21 = .ok (.iload 4, 2) := by decide +kernel
theorem dX7_findOpen_23 : decode cX7_findOpen 23 = .ok (.if_icmp .ge 144, 3) := by decide +kernel
theorem dX7_findOpen_26 : decode cX7_findOpen 26 = .ok (.aload_n 3, 1) := by decide +kernel
theorem dX7_findOpen_27 : decode cX7_findOpen 27 = .ok (.iload 5, 2) := by decide +kernel
theorem dX7_findOpen_29 : decode cX7_findOpen 29 = .ok (.iaload, 1) := by decide +kernel
theorem dX7_findOpen_30 : decode cX7_findOpen 30 = .ok (.istore 6, 2) := by decide +kernel
theorem dX7_findOpen_32 : decode cX7_findOpen 32 = .ok (.aload_n 1, 1) := by decide +kernel
theorem dX7_findOpen_33 : decode cX7_findOpen 33 = .ok (.iload 6, 2) := by decide +kernel
theorem dX7_findOpen_35 : decode cX7_findOpen 35 = .ok (.invokevirtual 88, 3) := by decide +kernel
theorem dX7_findOpen_38 : decode cX7_findOpen 38 = .ok (.ifCond .eq 14, 3) := by decide +kernel
theorem dX7_findOpen_41 : decode cX7_findOpen 41 = .ok (.iload 6, 2) := by decide +kernel
theorem dX7_findOpen_43 : decode cX7_findOpen 43 = .ok (.iload_n 2, 1) := by decide +kernel
theorem dX7_findOpen_44 : decode cX7_findOpen 44 = .ok (.iand, 1) := by decide +kernel
theorem dX7_findOpen_45 : decode cX7_findOpen 45 = .ok (.ifCond .ne 7, 3) := by decide +kernel
theorem dX7_findOpen_48 : decode cX7_findOpen 48 = .ok (.iconst 1, 1) := by decide +kernel
theorem dX7_findOpen_49 : decode cX7_findOpen 49 = .ok (.goto 4, 3) := by decide +kernel
theorem dX7_findOpen_52 : decode cX7_findOpen 52 = .ok (.iconst 0, 1) := by decide +kernel
theorem dX7_findOpen_53 : decode cX7_findOpen 53 = .ok (.istore 7, 2) := by decide +kernel
theorem dX7_findOpen_55 : decode cX7_findOpen 55 = .ok (.iconst 0, 1) := by decide +kernel
theorem dX7_findOpen_56 : decode cX7_findOpen 56 = .ok (.istore 8, 2) := by decide +kernel
theorem dX7_findOpen_58 : decode cX7_findOpen 58 = .ok (.iconst 0, 1) := by decide +kernel
theorem dX7_findOpen_59 : decode cX7_findOpen 59 = .ok (.istore 9, 2) := by decide +kernel
theorem dX7_findOpen_61 : decode cX7_findOpen 61 = .ok (.iload 9, 2) := by decide +kernel
theorem dX7_findOpen_63 : decode cX7_findOpen 63 = .ok (.sipush 240, 3) := by decide +kernel
theorem dX7_findOpen_66 : decode cX7_findOpen 66 = .ok (.if_icmp .ge 95, 3) := by decide +kernel
theorem dX7_findOpen_69 : decode cX7_findOpen 69 = .ok (.iload 7, 2) := by decide +kernel
theorem dX7_findOpen_71 : decode cX7_findOpen 71 = .ok (.ifCond .eq 90, 3) := by decide +kernel
theorem dX7_findOpen_74 : decode cX7_findOpen 74 = .ok (.iload 9, 2) := by decide +kernel
theorem dX7_findOpen_76 : decode cX7_findOpen 76 = .ok (.ifCond .eq 25, 3) := by decide +kernel
theorem dX7_findOpen_79 : decode cX7_findOpen 79 = .ok (.iload 9, 2) := by decide +kernel
theorem dX7_findOpen_81 : decode cX7_findOpen 81 = .ok (.aload_n 1, 1) := by decide +kernel
theorem dX7_findOpen_82 : decode cX7_findOpen 82 = .ok (.getfield 92, 3) := by decide +kernel
theorem dX7_findOpen_85 : decode cX7_findOpen 85 = .ok (.iconst 1, 1) := by decide +kernel
theorem dX7_findOpen_86 : decode cX7_findOpen 86 = .ok (.iaload, 1) := by decide +kernel
theorem dX7_findOpen_87 : decode cX7_findOpen 87 = .ok (.if_icmp .eq 14, 3) := by decide +kernel
theorem dX7_findOpen_90 : decode cX7_findOpen 90 = .ok (.iload 9, 2) := by decide +kernel
theorem dX7_findOpen_92 : decode cX7_findOpen 92 = .ok (.aload_n 1, 1) := by decide +kernel
theorem dX7_findOpen_93 : decode cX7_findOpen 93 = .ok (.getfield 92, 3) := by decide +kernel
theorem dX7_findOpen_96 : decode cX7_findOpen 96 = .ok (.iconst 3, 1) := by decide +kernel
theorem dX7_findOpen_97 : decode cX7_findOpen 97 = .ok (.iaload, 1) := by decide +kernel
theorem dX7_findOpen_98 : decode cX7_findOpen 98 = .ok (.if_icmp .ne 38, 3) := by decide +kernel
theorem dX7_findOpen_101 : decode cX7_findOpen 101 = .ok (.aload_n 1, 1) := by decide +kernel
theorem dX7_findOpen_102 : decode cX7_findOpen 102 = .ok (.iload 6, 2) := by decide +kernel
theorem dX7_findOpen_104 : decode cX7_findOpen 104 = .ok (.iload 9, 2) := by decide +kernel
theorem dX7_findOpen_106 : decode cX7_findOpen 106 = .ok (.aload_n 1, 1) := by decide +kernel
theorem dX7_findOpen_107 : decode cX7_findOpen 107 = .ok (.iload 9, 2) := by decide +kernel
theorem dX7_findOpen_109 : decode cX7_findOpen 109 = .ok (.invokevirtual 95, 3) := by decide +kernel
theorem dX7_findOpen_112 : decode cX7_findOpen 112 = .ok (.invokevirtual 98, 3) := by decide +kernel
theorem dX7_findOpen_115 : decode cX7_findOpen 115 = .ok (.istore 10, 2) := by decide +kernel
theorem dX7_findOpen_117 : decode cX7_findOpen 117 = .ok (.iload 10, 2) := by decide +kernel
theorem dX7_findOpen_119 : decode cX7_findOpen 119 = .ok (.ifCond .eq 10, 3) := by decide +kernel
theorem dX7_findOpen_122 : decode cX7_findOpen 122 = .ok (.iload 10, 2) := by decide +kernel
theorem dX7_findOpen_124 : decode cX7_findOpen 124 = .ok (.bipush 6, 2) := by decide +kernel
theorem dX7_findOpen_126 : decode cX7_findOpen 126 = .ok (.if_icmp .ne 7, 3) := by decide +kernel
theorem dX7_findOpen_129 : decode cX7_findOpen 129 = .ok (.iconst 1, 1) := by decide +kernel
theorem dX7_findOpen_130 : decode cX7_findOpen 130 = .ok (.goto 4, 3) := by decide +kernel
theorem dX7_findOpen_133 : decode cX7_findOpen 133 = .ok (.iconst 0, 1) := by decide +kernel
theorem dX7_findOpen_134 : decode cX7_findOpen 134 = .ok (.istore 8, 2) := by decide +kernel
theorem dX7_findOpen_136 : decode cX7_findOpen 136 = .ok (.iload 8, 2) := by decide +kernel
theorem dX7_findOpen_138 : decode cX7_findOpen 138 = .ok (.ifCond .eq 17, 3) := by decide +kernel
theorem dX7_findOpen_141 : decode cX7_findOpen 141 = .ok (.aload_n 0, 1) := by decide +kernel
theorem dX7_findOpen_142 : decode cX7_findOpen 142 = .ok (.getfield 15, 3) := by decide +kernel
theorem dX7_findOpen_145 : decode cX7_findOpen 145 = .ok (.iload 9, 2) := by decide +kernel
theorem dX7_findOpen_147 : decode cX7_findOpen 147 = .ok (.dup2, 1) := by decide +kernel
theorem dX7_findOpen_148 : decode cX7_findOpen 148 = .ok (.laload, 1) := by decide +kernel
theorem dX7_findOpen_149 : decode cX7_findOpen 149 = .ok (.lconst 1, 1) := by decide +kernel
theorem dX7_findOpen_150 : decode cX7_findOpen 150 = .ok (.iload 6, 2) := by decide +kernel
theorem dX7_findOpen_152 : decode cX7_findOpen 152 = .ok (.lshl, 1) := by decide +kernel
theorem dX7_findOpen_153 : decode cX7_findOpen 153 = .ok (.lor, 1) := by decide +kernel
theorem dX7_findOpen_154 : decode cX7_findOpen 154 = .ok (.lastore, 1) := by decide +kernel
theorem dX7_findOpen_155 : decode cX7_findOpen 155 = .ok (.iinc 9 1, 3) := by decide +kernel
theorem dX7_findOpen_158 : decode cX7_findOpen 158 = .ok (.goto (-97), 3) := by decide +kernel
theorem dX7_findOpen_161 : decode cX7_findOpen 161 = .ok (.iinc 5 1, 3) := by decide +kernel
theorem dX7_findOpen_164 : decode cX7_findOpen 164 = .ok (.goto (-145), 3) := by decide +kernel
theorem dX7_findOpen_167 : decode cX7_findOpen 167 = .ok (.return_, 1) := by decide +kernel
theorem dX7_mayCross_0 : decode cX7_mayCross 0 = .ok (.aload_n 0, 1) := by decide +kernel
theorem dX7_mayCross_1 : decode cX7_mayCross 1 = .ok (.getfield 15, 3) := by decide +kernel
theorem dX7_mayCross_4 : decode cX7_mayCross 4 = .ok (.iload_n 2, 1) := by decide +kernel
theorem dX7_mayCross_5 : decode cX7_mayCross 5 = .ok (.laload, 1) := by decide +kernel
theorem dX7_mayCross_6 : decode cX7_mayCross 6 = .ok (.iload_n 1, 1) := by decide +kernel
theorem dX7_mayCross_7 : decode cX7_mayCross 7 = .ok (.lushr, 1) := by decide +kernel
theorem dX7_mayCross_8 : decode cX7_mayCross 8 = .ok (.lconst 1, 1) := by decide +kernel
theorem dX7_mayCross_9 : decode cX7_mayCross 9 = .ok (.land, 1) := by decide +kernel
theorem dX7_mayCross_10 : decode cX7_mayCross 10 = .ok (.lconst 0, 1) := by decide +kernel
theorem dX7_mayCross_11 : decode cX7_mayCross 11 = .ok (.lcmp, 1) := by decide +kernel
theorem dX7_mayCross_12 : decode cX7_mayCross 12 = .ok (.ifCond .eq 19, 3) := by decide +kernel
theorem dX7_mayCross_15 : decode cX7_mayCross 15 = .ok (.iload_n 2, 1) := by decide +kernel
theorem dX7_mayCross_16 : decode cX7_mayCross 16 = .ok (.aload_n 0, 1) := by decide +kernel
theorem dX7_mayCross_17 : decode cX7_mayCross 17 = .ok (.getfield 25, 3) := by decide +kernel
theorem dX7_mayCross_20 : decode cX7_mayCross 20 = .ok (.iload_n 1, 1) := by decide +kernel
theorem dX7_mayCross_21 : decode cX7_mayCross 21 = .ok (.iaload, 1) := by decide +kernel
theorem dX7_mayCross_22 : decode cX7_mayCross 22 = .ok (.iadd, 1) := by decide +kernel
theorem dX7_mayCross_23 : decode cX7_mayCross 23 = .ok (.iload_n 3, 1) := by decide +kernel
theorem dX7_mayCross_24 : decode cX7_mayCross 24 = .ok (.if_icmp .gt 7, 3) := by decide +kernel
theorem dX7_mayCross_27 : decode cX7_mayCross 27 = .ok (.iconst 1, 1) := by decide +kernel
theorem dX7_mayCross_28 : decode cX7_mayCross 28 = .ok (.goto 4, 3) := by decide +kernel
theorem dX7_mayCross_31 : decode cX7_mayCross 31 = .ok (.iconst 0, 1) := by decide +kernel
theorem dX7_mayCross_32 : decode cX7_mayCross 32 = .ok (.ireturn, 1) := by decide +kernel
set_option maxRecDepth 20000 in
theorem ggX7_findMinutes_J7_fill_d0a16 : GoodIn wsX7_findMinutes wsJ7_fill_d0a16 := goodIn_r _ [7] (by decide +kernel) (by decide +kernel)
set_option maxRecDepth 20000 in
theorem gX7_findMinutes_J7_fill_d0a16 : GoodIn wsX7_findMinutes (va_wsS RX7 82 yJ7_fill_d0a16 wsJ7_fill_d0a16) := goodIn_app (goodIn_of _ (by decide +kernel)) ggX7_findMinutes_J7_fill_d0a16
set_option maxRecDepth 20000 in
theorem ggX7_findMinutes_X7_mayCross : GoodIn wsX7_findMinutes wsX7_mayCross := goodIn_r _ [12, 13, 3, 22, 23, 24, 25, 26, 27, 28, 29, 30, 31, 32, 33] (by decide +kernel) (by decide +kernel)
set_option maxRecDepth 20000 in
theorem gX7_findMinutes_X7_mayCross : GoodIn wsX7_findMinutes (wsV RX7 102 RX7 yX7_mayCross wsX7_mayCross) := goodIn_app (goodIn_of _ (by decide +kernel)) ggX7_findMinutes_X7_mayCross
set_option maxRecDepth 20000 in
theorem ggX7_findMinutes_X10_crossed : GoodIn wsX7_findMinutes wsX10_crossed := goodIn_r _ [16, 17, 18, 19, 20, 15, 21] (by decide +kernel) (by decide +kernel)
set_option maxRecDepth 20000 in
theorem gX7_findMinutes_X10_crossed_n106 : GoodIn wsX7_findMinutes (wsX10_crossed) := ggX7_findMinutes_X10_crossed
theorem dX7_findMinutes_0 : decode cX7_findMinutes 0 = .ok (.aload_n 0, 1) := by decide +kernel
theorem dX7_findMinutes_1 : decode cX7_findMinutes 1 = .ok (.iconst (-1), 1) := by decide +kernel
theorem dX7_findMinutes_2 : decode cX7_findMinutes 2 = .ok (.putfield 70, 3) := by decide +kernel
theorem dX7_findMinutes_5 : decode cX7_findMinutes 5 = .ok (.aload_n 0, 1) := by decide +kernel
theorem dX7_findMinutes_6 : decode cX7_findMinutes 6 = .ok (.getfield 19, 3) := by decide +kernel
theorem dX7_findMinutes_9 : decode cX7_findMinutes 9 = .ok (.lconst 0, 1) := by decide +kernel
theorem dX7_findMinutes_10 : decode cX7_findMinutes 10 = .ok (.invokestatic 82, 3) := by decide +kernel
theorem dX7_findMinutes_13 : decode cX7_findMinutes 13 = .ok (.aload_n 0, 1) := by decide +kernel
theorem dX7_findMinutes_14 : decode cX7_findMinutes 14 = .ok (.getfield 19, 3) := by decide +kernel
theorem dX7_findMinutes_17 : decode cX7_findMinutes 17 = .ok (.iconst 0, 1) := by decide +kernel
theorem dX7_findMinutes_18 : decode cX7_findMinutes 18 = .ok (.lconst 1, 1) := by decide +kernel
theorem dX7_findMinutes_19 : decode cX7_findMinutes 19 = .ok (.lastore, 1) := by decide +kernel
theorem dX7_findMinutes_20 : decode cX7_findMinutes 20 = .ok (.iconst 0, 1) := by decide +kernel
theorem dX7_findMinutes_21 : decode cX7_findMinutes 21 = .ok (.istore_n 3, 1) := by decide +kernel
theorem dX7_findMinutes_22 : decode cX7_findMinutes 22 = .ok (.iload_n 3, 1) := by decide +kernel
theorem dX7_findMinutes_23 : decode cX7_findMinutes 23 = .ok (.sipush 240, 3) := by decide +kernel
theorem dX7_findMinutes_26 : decode cX7_findMinutes 26 = .ok (.if_icmp .ge 119, 3) := by decide +kernel
theorem dX7_findMinutes_29 : decode cX7_findMinutes 29 = .ok (.aload_n 0, 1) := by decide +kernel
theorem dX7_findMinutes_30 : decode cX7_findMinutes 30 = .ok (.getfield 19, 3) := by decide +kernel
theorem dX7_findMinutes_33 : decode cX7_findMinutes 33 = .ok (.iload_n 3, 1) := by decide +kernel
theorem dX7_findMinutes_34 : decode cX7_findMinutes 34 = .ok (.laload, 1) := by decide +kernel
theorem dX7_findMinutes_35 : decode cX7_findMinutes 35 = .ok (.lload_n 1, 1) := by decide +kernel
theorem dX7_findMinutes_36 : decode cX7_findMinutes 36 = .ok (.land, 1) := by decide +kernel
theorem dX7_findMinutes_37 : decode cX7_findMinutes 37 = .ok (.lconst 0, 1) := by decide +kernel
theorem dX7_findMinutes_38 : decode cX7_findMinutes 38 = .ok (.lcmp, 1) := by decide +kernel
theorem dX7_findMinutes_39 : decode cX7_findMinutes 39 = .ok (.ifCond .eq 9, 3) := by decide +kernel
theorem dX7_findMinutes_42 : decode cX7_findMinutes 42 = .ok (.aload_n 0, 1) := by decide +kernel
theorem dX7_findMinutes_43 : decode cX7_findMinutes 43 = .ok (.iload_n 3, 1) := by decide +kernel
theorem dX7_findMinutes_44 : decode cX7_findMinutes 44 = .ok (.putfield 70, 3) := by decide +kernel
theorem dX7_findMinutes_47 : decode cX7_findMinutes 47 = .ok (.return_, 1) := by decide +kernel
theorem dX7_findMinutes_48 : decode cX7_findMinutes 48 = .ok (.aload_n 0, 1) := by decide +kernel
theorem dX7_findMinutes_49 : decode cX7_findMinutes 49 = .ok (.getfield 19, 3) := by decide +kernel
theorem dX7_findMinutes_52 : decode cX7_findMinutes 52 = .ok (.iload_n 3, 1) := by decide +kernel
theorem dX7_findMinutes_53 : decode cX7_findMinutes 53 = .ok (.iconst 1, 1) := by decide +kernel
theorem dX7_findMinutes_54 : decode cX7_findMinutes 54 = .ok (.iadd, 1) := by decide +kernel
theorem dX7_findMinutes_55 : decode cX7_findMinutes 55 = .ok (.dup2, 1) := by decide +kernel
theorem dX7_findMinutes_56 : decode cX7_findMinutes 56 = .ok (.laload, 1) := by decide +kernel
theorem dX7_findMinutes_57 : decode cX7_findMinutes 57 = .ok (.aload_n 0, 1) := by decide +kernel
theorem dX7_findMinutes_58 : decode cX7_findMinutes 58 = .ok (.getfield 19, 3) := by decide +kernel
theorem dX7_findMinutes_61 : decode cX7_findMinutes 61 = .ok (.iload_n 3, 1) := by decide +kernel
theorem dX7_findMinutes_62 : decode cX7_findMinutes 62 = .ok (.laload, 1) := by decide +kernel
theorem dX7_findMinutes_63 : decode cX7_findMinutes 63 = .ok (.lor, 1) := by decide +kernel
theorem dX7_findMinutes_64 : decode cX7_findMinutes 64 = .ok (.lastore, 1) := by decide +kernel
theorem dX7_findMinutes_65 : decode cX7_findMinutes 65 = .ok (.getstatic 42, 3) := by decide +kernel
theorem dX7_findMinutes_68 : decode cX7_findMinutes 68 = .ok (.astore 4, 2) := by decide +kernel
theorem dX7_findMinutes_70 : decode cX7_findMinutes 70 = .ok (.aload 4, 2) := by decide +kernel
theorem dX7_findMinutes_72 : decode cX7_findMinutes 72 = .ok (.arraylength, 1) := by decide +kernel
theorem dX7_findMinutes_73 : decode cX7_findMinutes 73 = .ok (.istore 5, 2) := by decide +kernel
theorem dX7_findMinutes_75 : decode cX7_findMinutes 75 = .ok (.iconst 0, 1) := by decide +kernel
theorem dX7_findMinutes_76 : decode cX7_findMinutes 76 = .ok (.istore 6, 2) := by decide +kernel
theorem dX7_findMinutes_78 : decode cX7_findMinutes 78 = .ok (.iload 6, 2) := by decide +kernel
theorem dX7_findMinutes_80 : decode cX7_findMinutes 80 = .ok (.iload 5, 2) := by decide +kernel
theorem dX7_findMinutes_82 : decode cX7_findMinutes 82 = .ok (.if_icmp .ge 57, 3) := by decide +kernel
theorem dX7_findMinutes_85 : decode cX7_findMinutes 85 = .ok (.aload 4, 2) := by decide +kernel
theorem dX7_findMinutes_87 : decode cX7_findMinutes 87 = .ok (.iload 6, 2) := by decide +kernel
theorem dX7_findMinutes_89 : decode cX7_findMinutes 89 = .ok (.iaload, 1) := by decide +kernel
theorem dX7_findMinutes_90 : decode cX7_findMinutes 90 = .ok (.istore 7, 2) := by decide +kernel
theorem dX7_findMinutes_92 : decode cX7_findMinutes 92 = .ok (.aload_n 0, 1) := by decide +kernel
theorem dX7_findMinutes_93 : decode cX7_findMinutes 93 = .ok (.iload 7, 2) := by decide +kernel
theorem dX7_findMinutes_95 : decode cX7_findMinutes 95 = .ok (.iload_n 3, 1) := by decide +kernel
theorem dX7_findMinutes_96 : decode cX7_findMinutes 96 = .ok (.sipush 240, 3) := by decide +kernel
theorem dX7_findMinutes_99 : decode cX7_findMinutes 99 = .ok (.invokevirtual 102, 3) := by decide +kernel
theorem dX7_findMinutes_102 : decode cX7_findMinutes 102 = .ok (.ifCond .eq 31, 3) := by decide +kernel
theorem dX7_findMinutes_105 : decode cX7_findMinutes 105 = .ok (.aload_n 0, 1) := by decide +kernel
theorem dX7_findMinutes_106 : decode cX7_findMinutes 106 = .ok (.getfield 19, 3) := by decide +kernel
theorem dX7_findMinutes_109 : decode cX7_findMinutes 109 = .ok (.iload_n 3, 1) := by decide +kernel
theorem dX7_findMinutes_110 : decode cX7_findMinutes 110 = .ok (.aload_n 0, 1) := by decide +kernel
theorem dX7_findMinutes_111 : decode cX7_findMinutes 111 = .ok (.getfield 25, 3) := by decide +kernel
theorem dX7_findMinutes_114 : decode cX7_findMinutes 114 = .ok (.iload 7, 2) := by decide +kernel
theorem dX7_findMinutes_116 : decode cX7_findMinutes 116 = .ok (.iaload, 1) := by decide +kernel
theorem dX7_findMinutes_117 : decode cX7_findMinutes 117 = .ok (.iadd, 1) := by decide +kernel
theorem dX7_findMinutes_118 : decode cX7_findMinutes 118 = .ok (.dup2, 1) := by decide +kernel
theorem dX7_findMinutes_119 : decode cX7_findMinutes 119 = .ok (.laload, 1) := by decide +kernel
theorem dX7_findMinutes_120 : decode cX7_findMinutes 120 = .ok (.aload_n 0, 1) := by decide +kernel
theorem dX7_findMinutes_121 : decode cX7_findMinutes 121 = .ok (.getfield 19, 3) := by decide +kernel
theorem dX7_findMinutes_124 : decode cX7_findMinutes 124 = .ok (.iload_n 3, 1) := by decide +kernel
theorem dX7_findMinutes_125 : decode cX7_findMinutes 125 = .ok (.laload, 1) := by decide +kernel
theorem dX7_findMinutes_126 : decode cX7_findMinutes 126 = .ok (.iload 7, 2) := by decide +kernel
theorem dX7_findMinutes_128 : decode cX7_findMinutes 128 = .ok (.invokestatic 106, 3) := by decide +kernel
theorem dX7_findMinutes_131 : decode cX7_findMinutes 131 = .ok (.lor, 1) := by decide +kernel
theorem dX7_findMinutes_132 : decode cX7_findMinutes 132 = .ok (.lastore, 1) := by decide +kernel
theorem dX7_findMinutes_133 : decode cX7_findMinutes 133 = .ok (.iinc 6 1, 3) := by decide +kernel
theorem dX7_findMinutes_136 : decode cX7_findMinutes 136 = .ok (.goto (-58), 3) := by decide +kernel
theorem dX7_findMinutes_139 : decode cX7_findMinutes 139 = .ok (.iinc 3 1, 3) := by decide +kernel
theorem dX7_findMinutes_142 : decode cX7_findMinutes 142 = .ok (.goto (-120), 3) := by decide +kernel
theorem dX7_findMinutes_145 : decode cX7_findMinutes 145 = .ok (.aload_n 0, 1) := by decide +kernel
theorem dX7_findMinutes_146 : decode cX7_findMinutes 146 = .ok (.getfield 19, 3) := by decide +kernel
theorem dX7_findMinutes_149 : decode cX7_findMinutes 149 = .ok (.sipush 240, 3) := by decide +kernel
theorem dX7_findMinutes_152 : decode cX7_findMinutes 152 = .ok (.laload, 1) := by decide +kernel
theorem dX7_findMinutes_153 : decode cX7_findMinutes 153 = .ok (.lload_n 1, 1) := by decide +kernel
theorem dX7_findMinutes_154 : decode cX7_findMinutes 154 = .ok (.land, 1) := by decide +kernel
theorem dX7_findMinutes_155 : decode cX7_findMinutes 155 = .ok (.lconst 0, 1) := by decide +kernel
theorem dX7_findMinutes_156 : decode cX7_findMinutes 156 = .ok (.lcmp, 1) := by decide +kernel
theorem dX7_findMinutes_157 : decode cX7_findMinutes 157 = .ok (.ifCond .eq 10, 3) := by decide +kernel
theorem dX7_findMinutes_160 : decode cX7_findMinutes 160 = .ok (.aload_n 0, 1) := by decide +kernel
theorem dX7_findMinutes_161 : decode cX7_findMinutes 161 = .ok (.sipush 240, 3) := by decide +kernel
theorem dX7_findMinutes_164 : decode cX7_findMinutes 164 = .ok (.putfield 70, 3) := by decide +kernel
theorem dX7_findMinutes_167 : decode cX7_findMinutes 167 = .ok (.return_, 1) := by decide +kernel
set_option maxRecDepth 20000 in
theorem ggX7_keepUseful_X7_mayCross : GoodIn wsX7_keepUseful wsX7_mayCross := goodIn_r _ [8, 9, 3, 18, 19, 20, 21, 22, 23, 24, 25, 26, 27, 28, 29] (by decide +kernel) (by decide +kernel)
set_option maxRecDepth 20000 in
theorem gX7_keepUseful_X7_mayCross : GoodIn wsX7_keepUseful (wsV RX7 102 RX7 yX7_mayCross wsX7_mayCross) := goodIn_app (goodIn_of _ (by decide +kernel)) ggX7_keepUseful_X7_mayCross
set_option maxRecDepth 20000 in
theorem ggX7_keepUseful_X10_crossed : GoodIn wsX7_keepUseful wsX10_crossed := goodIn_r _ [12, 13, 14, 15, 16, 11, 17] (by decide +kernel) (by decide +kernel)
set_option maxRecDepth 20000 in
theorem gX7_keepUseful_X10_crossed_n106 : GoodIn wsX7_keepUseful (wsX10_crossed) := ggX7_keepUseful_X10_crossed
theorem dX7_keepUseful_0 : decode cX7_keepUseful 0 = .ok (.aload_n 0, 1) := by decide +kernel
theorem dX7_keepUseful_1 : decode cX7_keepUseful 1 = .ok (.getfield 19, 3) := by decide +kernel
theorem dX7_keepUseful_4 : decode cX7_keepUseful 4 = .ok (.aload_n 0, 1) := by decide +kernel
theorem dX7_keepUseful_5 : decode cX7_keepUseful 5 = .ok (.getfield 70, 3) := by decide +kernel
theorem dX7_keepUseful_8 : decode cX7_keepUseful 8 = .ok (.dup2, 1) := by decide +kernel
theorem dX7_keepUseful_9 : decode cX7_keepUseful 9 = .ok (.laload, 1) := by decide +kernel
theorem dX7_keepUseful_10 : decode cX7_keepUseful 10 = .ok (.lload_n 1, 1) := by decide +kernel
theorem dX7_keepUseful_11 : decode cX7_keepUseful 11 = .ok (.land, 1) := by decide +kernel
theorem dX7_keepUseful_12 : decode cX7_keepUseful 12 = .ok (.lastore, 1) := by decide +kernel
theorem dX7_keepUseful_13 : decode cX7_keepUseful 13 = .ok (.aload_n 0, 1) := by decide +kernel
theorem dX7_keepUseful_14 : decode cX7_keepUseful 14 = .ok (.getfield 70, 3) := by decide +kernel
theorem dX7_keepUseful_17 : decode cX7_keepUseful 17 = .ok (.iconst 1, 1) := by decide +kernel
theorem dX7_keepUseful_18 : decode cX7_keepUseful 18 = .ok (.isub, 1) := by decide +kernel
theorem dX7_keepUseful_19 : decode cX7_keepUseful 19 = .ok (.istore_n 3, 1) := by decide +kernel
theorem dX7_keepUseful_20 : decode cX7_keepUseful 20 = .ok (.iload_n 3, 1) := by decide +kernel
theorem dX7_keepUseful_21 : decode cX7_keepUseful 21 = .ok (.ifCond .lt 101, 3) := by decide +kernel
theorem dX7_keepUseful_24 : decode cX7_keepUseful 24 = .ok (.aload_n 0, 1) := by decide +kernel
theorem dX7_keepUseful_25 : decode cX7_keepUseful 25 = .ok (.getfield 19, 3) := by decide +kernel
theorem dX7_keepUseful_28 : decode cX7_keepUseful 28 = .ok (.iload_n 3, 1) := by decide +kernel
theorem dX7_keepUseful_29 : decode cX7_keepUseful 29 = .ok (.iconst 1, 1) := by decide +kernel
theorem dX7_keepUseful_30 : decode cX7_keepUseful 30 = .ok (.iadd, 1) := by decide +kernel
theorem dX7_keepUseful_31 : decode cX7_keepUseful 31 = .ok (.laload, 1) := by decide +kernel
theorem dX7_keepUseful_32 : decode cX7_keepUseful 32 = .ok (.lstore 4, 2) := by decide +kernel
theorem dX7_keepUseful_34 : decode cX7_keepUseful 34 = .ok (.getstatic 42, 3) := by decide +kernel
theorem dX7_keepUseful_37 : decode cX7_keepUseful 37 = .ok (.astore 6, 2) := by decide +kernel
theorem dX7_keepUseful_39 : decode cX7_keepUseful 39 = .ok (.aload 6, 2) := by decide +kernel
theorem dX7_keepUseful_41 : decode cX7_keepUseful 41 = .ok (.arraylength, 1) := by decide +kernel
theorem dX7_keepUseful_42 : decode cX7_keepUseful 42 = .ok (.istore 7, 2) := by decide +kernel
theorem dX7_keepUseful_44 : decode cX7_keepUseful 44 = .ok (.iconst 0, 1) := by decide +kernel
theorem dX7_keepUseful_45 : decode cX7_keepUseful 45 = .ok (.istore 8, 2) := by decide +kernel
theorem dX7_keepUseful_47 : decode cX7_keepUseful 47 = .ok (.iload 8, 2) := by decide +kernel
theorem dX7_keepUseful_49 : decode cX7_keepUseful 49 = .ok (.iload 7, 2) := by decide +kernel
theorem dX7_keepUseful_51 : decode cX7_keepUseful 51 = .ok (.if_icmp .ge 54, 3) := by decide +kernel
theorem dX7_keepUseful_54 : decode cX7_keepUseful 54 = .ok (.aload 6, 2) := by decide +kernel
theorem dX7_keepUseful_56 : decode cX7_keepUseful 56 = .ok (.iload 8, 2) := by decide +kernel
theorem dX7_keepUseful_58 : decode cX7_keepUseful 58 = .ok (.iaload, 1) := by decide +kernel
theorem dX7_keepUseful_59 : decode cX7_keepUseful 59 = .ok (.istore 9, 2) := by decide +kernel
theorem dX7_keepUseful_61 : decode cX7_keepUseful 61 = .ok (.aload_n 0, 1) := by decide +kernel
theorem dX7_keepUseful_62 : decode cX7_keepUseful 62 = .ok (.iload 9, 2) := by decide +kernel
theorem dX7_keepUseful_64 : decode cX7_keepUseful 64 = .ok (.iload_n 3, 1) := by decide +kernel
theorem dX7_keepUseful_65 : decode cX7_keepUseful 65 = .ok (.aload_n 0, 1) := by decide +kernel
theorem dX7_keepUseful_66 : decode cX7_keepUseful 66 = .ok (.getfield 70, 3) := by decide +kernel
theorem dX7_keepUseful_69 : decode cX7_keepUseful 69 = .ok (.invokevirtual 102, 3) := by decide +kernel
theorem dX7_keepUseful_72 : decode cX7_keepUseful 72 = .ok (.ifCond .eq 27, 3) := by decide +kernel
theorem dX7_keepUseful_75 : decode cX7_keepUseful 75 = .ok (.lload 4, 2) := by decide +kernel
theorem dX7_keepUseful_77 : decode cX7_keepUseful 77 = .ok (.aload_n 0, 1) := by decide +kernel
theorem dX7_keepUseful_78 : decode cX7_keepUseful 78 = .ok (.getfield 19, 3) := by decide +kernel
theorem dX7_keepUseful_81 : decode cX7_keepUseful 81 = .ok (.iload_n 3, 1) := by decide +kernel
theorem dX7_keepUseful_82 : decode cX7_keepUseful 82 = .ok (.aload_n 0, 1) := by decide +kernel
theorem dX7_keepUseful_83 : decode cX7_keepUseful 83 = .ok (.getfield 25, 3) := by decide +kernel
theorem dX7_keepUseful_86 : decode cX7_keepUseful 86 = .ok (.iload 9, 2) := by decide +kernel
theorem dX7_keepUseful_88 : decode cX7_keepUseful 88 = .ok (.iaload, 1) := by decide +kernel
theorem dX7_keepUseful_89 : decode cX7_keepUseful 89 = .ok (.iadd, 1) := by decide +kernel
theorem dX7_keepUseful_90 : decode cX7_keepUseful 90 = .ok (.laload, 1) := by decide +kernel
theorem dX7_keepUseful_91 : decode cX7_keepUseful 91 = .ok (.iload 9, 2) := by decide +kernel
theorem dX7_keepUseful_93 : decode cX7_keepUseful 93 = .ok (.invokestatic 106, 3) := by decide +kernel
theorem dX7_keepUseful_96 : decode cX7_keepUseful 96 = .ok (.lor, 1) := by decide +kernel
theorem dX7_keepUseful_97 : decode cX7_keepUseful 97 = .ok (.lstore 4, 2) := by decide +kernel
theorem dX7_keepUseful_99 : decode cX7_keepUseful 99 = .ok (.iinc 8 1, 3) := by decide +kernel
theorem dX7_keepUseful_102 : decode cX7_keepUseful 102 = .ok (.goto (-55), 3) := by decide +kernel
theorem dX7_keepUseful_105 : decode cX7_keepUseful 105 = .ok (.aload_n 0, 1) := by decide +kernel
theorem dX7_keepUseful_106 : decode cX7_keepUseful 106 = .ok (.getfield 19, 3) := by decide +kernel
theorem dX7_keepUseful_109 : decode cX7_keepUseful 109 = .ok (.iload_n 3, 1) := by decide +kernel
theorem dX7_keepUseful_110 : decode cX7_keepUseful 110 = .ok (.dup2, 1) := by decide +kernel
theorem dX7_keepUseful_111 : decode cX7_keepUseful 111 = .ok (.laload, 1) := by decide +kernel
theorem dX7_keepUseful_112 : decode cX7_keepUseful 112 = .ok (.lload 4, 2) := by decide +kernel
theorem dX7_keepUseful_114 : decode cX7_keepUseful 114 = .ok (.land, 1) := by decide +kernel
theorem dX7_keepUseful_115 : decode cX7_keepUseful 115 = .ok (.lastore, 1) := by decide +kernel
theorem dX7_keepUseful_116 : decode cX7_keepUseful 116 = .ok (.iinc 3 (-1), 3) := by decide +kernel
theorem dX7_keepUseful_119 : decode cX7_keepUseful 119 = .ok (.goto (-99), 3) := by decide +kernel
theorem dX7_keepUseful_122 : decode cX7_keepUseful 122 = .ok (.return_, 1) := by decide +kernel
set_option maxRecDepth 20000 in
theorem ggX7_findHires_X7_leastHire : GoodIn wsX7_findHires wsX7_leastHire := goodIn_r _ [9, 1, 10, 11, 12, 13, 14, 15, 16, 8, 17, 2, 3, 18, 19, 20, 21, 22, 23, 24, 25, 26, 27, 28, 29, 30, 31, 32, 33, 34, 35, 36, 37, 38, 39, 40, 41, 42, 43, 44] (by decide +kernel) (by decide +kernel)
set_option maxRecDepth 20000 in
theorem gX7_findHires_X7_leastHire : GoodIn wsX7_findHires (wsV RX7 110 RX7 yX7_leastHire wsX7_leastHire) := goodIn_app (goodIn_of _ (by decide +kernel)) ggX7_findHires_X7_leastHire
theorem dX7_findHires_0 : decode cX7_findHires 0 = .ok (.aload_n 0, 1) := by decide +kernel
theorem dX7_findHires_1 : decode cX7_findHires 1 = .ok (.getfield 70, 3) := by decide +kernel
theorem dX7_findHires_4 : decode cX7_findHires 4 = .ok (.istore_n 1, 1) := by decide +kernel
theorem dX7_findHires_5 : decode cX7_findHires 5 = .ok (.iload_n 1, 1) := by decide +kernel
theorem dX7_findHires_6 : decode cX7_findHires 6 = .ok (.ifCond .lt 67, 3) := by decide +kernel
theorem dX7_findHires_9 : decode cX7_findHires 9 = .ok (.iconst 0, 1) := by decide +kernel
theorem dX7_findHires_10 : decode cX7_findHires 10 = .ok (.istore_n 2, 1) := by decide +kernel
theorem dX7_findHires_11 : decode cX7_findHires 11 = .ok (.iload_n 2, 1) := by decide +kernel
theorem dX7_findHires_12 : decode cX7_findHires 12 = .ok (.bipush 64, 2) := by decide +kernel
theorem dX7_findHires_14 : decode cX7_findHires 14 = .ok (.if_icmp .ge 53, 3) := by decide +kernel
theorem dX7_findHires_17 : decode cX7_findHires 17 = .ok (.aload_n 0, 1) := by decide +kernel
theorem dX7_findHires_18 : decode cX7_findHires 18 = .ok (.getfield 19, 3) := by decide +kernel
theorem dX7_findHires_21 : decode cX7_findHires 21 = .ok (.iload_n 1, 1) := by decide +kernel
theorem dX7_findHires_22 : decode cX7_findHires 22 = .ok (.laload, 1) := by decide +kernel
theorem dX7_findHires_23 : decode cX7_findHires 23 = .ok (.iload_n 2, 1) := by decide +kernel
theorem dX7_findHires_24 : decode cX7_findHires 24 = .ok (.lushr, 1) := by decide +kernel
theorem dX7_findHires_25 : decode cX7_findHires 25 = .ok (.lconst 1, 1) := by decide +kernel
theorem dX7_findHires_26 : decode cX7_findHires 26 = .ok (.land, 1) := by decide +kernel
theorem dX7_findHires_27 : decode cX7_findHires 27 = .ok (.lconst 0, 1) := by decide +kernel
theorem dX7_findHires_28 : decode cX7_findHires 28 = .ok (.lcmp, 1) := by decide +kernel
theorem dX7_findHires_29 : decode cX7_findHires 29 = .ok (.ifCond .eq 32, 3) := by decide +kernel
theorem dX7_findHires_32 : decode cX7_findHires 32 = .ok (.aload_n 0, 1) := by decide +kernel
theorem dX7_findHires_33 : decode cX7_findHires 33 = .ok (.getfield 22, 3) := by decide +kernel
theorem dX7_findHires_36 : decode cX7_findHires 36 = .ok (.iload_n 1, 1) := by decide +kernel
theorem dX7_findHires_37 : decode cX7_findHires 37 = .ok (.bipush 64, 2) := by decide +kernel
theorem dX7_findHires_39 : decode cX7_findHires 39 = .ok (.imul, 1) := by decide +kernel
theorem dX7_findHires_40 : decode cX7_findHires 40 = .ok (.iload_n 2, 1) := by decide +kernel
theorem dX7_findHires_41 : decode cX7_findHires 41 = .ok (.iadd, 1) := by decide +kernel
theorem dX7_findHires_42 : decode cX7_findHires 42 = .ok (.iload_n 1, 1) := by decide +kernel
theorem dX7_findHires_43 : decode cX7_findHires 43 = .ok (.aload_n 0, 1) := by decide +kernel
theorem dX7_findHires_44 : decode cX7_findHires 44 = .ok (.getfield 70, 3) := by decide +kernel
theorem dX7_findHires_47 : decode cX7_findHires 47 = .ok (.if_icmp .ne 7, 3) := by decide +kernel
theorem dX7_findHires_50 : decode cX7_findHires 50 = .ok (.iconst 0, 1) := by decide +kernel
theorem dX7_findHires_51 : decode cX7_findHires 51 = .ok (.goto 9, 3) := by decide +kernel
theorem dX7_findHires_54 : decode cX7_findHires 54 = .ok (.aload_n 0, 1) := by decide +kernel
theorem dX7_findHires_55 : decode cX7_findHires 55 = .ok (.iload_n 1, 1) := by decide +kernel
theorem dX7_findHires_56 : decode cX7_findHires 56 = .ok (.iload_n 2, 1) := by decide +kernel
theorem dX7_findHires_57 : decode cX7_findHires 57 = .ok (.invokevirtual 110, 3) := by decide +kernel
theorem dX7_findHires_60 : decode cX7_findHires 60 = .ok (.iastore, 1) := by decide +kernel
theorem dX7_findHires_61 : decode cX7_findHires 61 = .ok (.iinc 2 1, 3) := by decide +kernel
theorem dX7_findHires_64 : decode cX7_findHires 64 = .ok (.goto (-53), 3) := by decide +kernel
theorem dX7_findHires_67 : decode cX7_findHires 67 = .ok (.iinc 1 (-1), 3) := by decide +kernel
theorem dX7_findHires_70 : decode cX7_findHires 70 = .ok (.goto (-65), 3) := by decide +kernel
theorem dX7_findHires_73 : decode cX7_findHires 73 = .ok (.aload_n 0, 1) := by decide +kernel
theorem dX7_findHires_74 : decode cX7_findHires 74 = .ok (.aload_n 0, 1) := by decide +kernel
theorem dX7_findHires_75 : decode cX7_findHires 75 = .ok (.getfield 22, 3) := by decide +kernel
theorem dX7_findHires_78 : decode cX7_findHires 78 = .ok (.iconst 0, 1) := by decide +kernel
theorem dX7_findHires_79 : decode cX7_findHires 79 = .ok (.iaload, 1) := by decide +kernel
theorem dX7_findHires_80 : decode cX7_findHires 80 = .ok (.putfield 64, 3) := by decide +kernel
theorem dX7_findHires_83 : decode cX7_findHires 83 = .ok (.return_, 1) := by decide +kernel
set_option maxRecDepth 20000 in
theorem ggX7_leastHire_X7_hireFrom : GoodIn wsX7_leastHire wsX7_hireFrom := goodIn_r _ [10, 11, 12, 13, 28, 29, 30, 31, 32, 33, 34, 35, 36, 37, 38, 39] (by decide +kernel) (by decide +kernel)
set_option maxRecDepth 20000 in
theorem gX7_leastHire_X7_hireFrom : GoodIn wsX7_leastHire (wsV RX7 114 RX7 yX7_hireFrom wsX7_hireFrom) := goodIn_app (goodIn_of _ (by decide +kernel)) ggX7_leastHire_X7_hireFrom
set_option maxRecDepth 20000 in
theorem ggX7_leastHire_X7_mayCross : GoodIn wsX7_leastHire wsX7_mayCross := goodIn_r _ [17, 18, 19, 28, 29, 30, 31, 32, 33, 34, 35, 36, 37, 38, 39] (by decide +kernel) (by decide +kernel)
set_option maxRecDepth 20000 in
theorem gX7_leastHire_X7_mayCross : GoodIn wsX7_leastHire (wsV RX7 102 RX7 yX7_mayCross wsX7_mayCross) := goodIn_app (goodIn_of _ (by decide +kernel)) ggX7_leastHire_X7_mayCross
set_option maxRecDepth 20000 in
theorem ggX7_leastHire_X10_isOnOneSide : GoodIn wsX7_leastHire wsX10_isOnOneSide := goodIn_r _ [22] (by decide +kernel) (by decide +kernel)
set_option maxRecDepth 20000 in
theorem gX7_leastHire_X10_isOnOneSide_n117 : GoodIn wsX7_leastHire (wsX10_isOnOneSide) := ggX7_leastHire_X10_isOnOneSide
set_option maxRecDepth 20000 in
theorem ggX7_leastHire_X7_hireBy : GoodIn wsX7_leastHire wsX7_hireBy := goodIn_r _ [26, 27, 19, 6, 7, 8, 9, 10, 11, 12, 13, 28, 29, 30, 31, 32, 33, 34, 35, 36, 37, 38, 39] (by decide +kernel) (by decide +kernel)
set_option maxRecDepth 20000 in
theorem gX7_leastHire_X7_hireBy : GoodIn wsX7_leastHire (wsV RX7 121 RX7 yX7_hireBy wsX7_hireBy) := goodIn_app (goodIn_of _ (by decide +kernel)) ggX7_leastHire_X7_hireBy
theorem dX7_leastHire_0 : decode cX7_leastHire 0 = .ok (.aload_n 0, 1) := by decide +kernel
theorem dX7_leastHire_1 : decode cX7_leastHire 1 = .ok (.iload_n 1, 1) := by decide +kernel
theorem dX7_leastHire_2 : decode cX7_leastHire 2 = .ok (.iconst 1, 1) := by decide +kernel
theorem dX7_leastHire_3 : decode cX7_leastHire 3 = .ok (.iadd, 1) := by decide +kernel
theorem dX7_leastHire_4 : decode cX7_leastHire 4 = .ok (.iload_n 2, 1) := by decide +kernel
theorem dX7_leastHire_5 : decode cX7_leastHire 5 = .ok (.invokevirtual 114, 3) := by decide +kernel
theorem dX7_leastHire_8 : decode cX7_leastHire 8 = .ok (.istore_n 3, 1) := by decide +kernel
theorem dX7_leastHire_9 : decode cX7_leastHire 9 = .ok (.getstatic 42, 3) := by decide +kernel
theorem dX7_leastHire_12 : decode cX7_leastHire 12 = .ok (.astore 4, 2) := by decide +kernel
theorem dX7_leastHire_14 : decode cX7_leastHire 14 = .ok (.aload 4, 2) := by decide +kernel
theorem dX7_leastHire_16 : decode cX7_leastHire 16 = .ok (.arraylength, 1) := by decide +kernel
theorem dX7_leastHire_17 : decode cX7_leastHire 17 = .ok (.istore 5, 2) := by decide +kernel
theorem dX7_leastHire_19 : decode cX7_leastHire 19 = .ok (.iconst 0, 1) := by decide +kernel
theorem dX7_leastHire_20 : decode cX7_leastHire 20 = .ok (.istore 6, 2) := by decide +kernel
theorem dX7_leastHire_22 : decode cX7_leastHire 22 = .ok (.iload 6, 2) := by decide +kernel
theorem dX7_leastHire_24 : decode cX7_leastHire 24 = .ok (.iload 5, 2) := by decide +kernel
theorem dX7_leastHire_26 : decode cX7_leastHire 26 = .ok (.if_icmp .ge 52, 3) := by decide +kernel
theorem dX7_leastHire_29 : decode cX7_leastHire 29 = .ok (.aload 4, 2) := by decide +kernel
theorem dX7_leastHire_31 : decode cX7_leastHire 31 = .ok (.iload 6, 2) := by decide +kernel
theorem dX7_leastHire_33 : decode cX7_leastHire 33 = .ok (.iaload, 1) := by decide +kernel
theorem dX7_leastHire_34 : decode cX7_leastHire 34 = .ok (.istore 7, 2) := by decide +kernel
theorem dX7_leastHire_36 : decode cX7_leastHire 36 = .ok (.aload_n 0, 1) := by decide +kernel
theorem dX7_leastHire_37 : decode cX7_leastHire 37 = .ok (.iload 7, 2) := by decide +kernel
theorem dX7_leastHire_39 : decode cX7_leastHire 39 = .ok (.iload_n 1, 1) := by decide +kernel
theorem dX7_leastHire_40 : decode cX7_leastHire 40 = .ok (.aload_n 0, 1) := by decide +kernel
theorem dX7_leastHire_41 : decode cX7_leastHire 41 = .ok (.getfield 70, 3) := by decide +kernel
theorem dX7_leastHire_44 : decode cX7_leastHire 44 = .ok (.invokevirtual 102, 3) := by decide +kernel
theorem dX7_leastHire_47 : decode cX7_leastHire 47 = .ok (.ifCond .eq 25, 3) := by decide +kernel
theorem dX7_leastHire_50 : decode cX7_leastHire 50 = .ok (.iload 7, 2) := by decide +kernel
theorem dX7_leastHire_52 : decode cX7_leastHire 52 = .ok (.iload_n 2, 1) := by decide +kernel
theorem dX7_leastHire_53 : decode cX7_leastHire 53 = .ok (.invokestatic 117, 3) := by decide +kernel
theorem dX7_leastHire_56 : decode cX7_leastHire 56 = .ok (.ifCond .eq 16, 3) := by decide +kernel
theorem dX7_leastHire_59 : decode cX7_leastHire 59 = .ok (.iload_n 3, 1) := by decide +kernel
theorem dX7_leastHire_60 : decode cX7_leastHire 60 = .ok (.aload_n 0, 1) := by decide +kernel
theorem dX7_leastHire_61 : decode cX7_leastHire 61 = .ok (.iload 7, 2) := by decide +kernel
theorem dX7_leastHire_63 : decode cX7_leastHire 63 = .ok (.iload_n 1, 1) := by decide +kernel
theorem dX7_leastHire_64 : decode cX7_leastHire 64 = .ok (.iload_n 2, 1) := by decide +kernel
theorem dX7_leastHire_65 : decode cX7_leastHire 65 = .ok (.invokevirtual 121, 3) := by decide +kernel
theorem dX7_leastHire_68 : decode cX7_leastHire 68 = .ok (.invokestatic 125, 3) := by decide +kernel
theorem dX7_leastHire_71 : decode cX7_leastHire 71 = .ok (.istore_n 3, 1) := by decide +kernel
theorem dX7_leastHire_72 : decode cX7_leastHire 72 = .ok (.iinc 6 1, 3) := by decide +kernel
theorem dX7_leastHire_75 : decode cX7_leastHire 75 = .ok (.goto (-53), 3) := by decide +kernel
theorem dX7_leastHire_78 : decode cX7_leastHire 78 = .ok (.iload_n 3, 1) := by decide +kernel
theorem dX7_leastHire_79 : decode cX7_leastHire 79 = .ok (.ireturn, 1) := by decide +kernel
set_option maxRecDepth 20000 in
theorem ggX7_hireBy_X7_hireFrom : GoodIn wsX7_hireBy wsX7_hireFrom := goodIn_r _ [7, 8, 9, 10, 11, 12, 13, 14, 15, 16, 17, 18, 19, 20, 21, 22] (by decide +kernel) (by decide +kernel)
set_option maxRecDepth 20000 in
theorem gX7_hireBy_X7_hireFrom : GoodIn wsX7_hireBy (wsV RX7 114 RX7 yX7_hireFrom wsX7_hireFrom) := goodIn_app (goodIn_of _ (by decide +kernel)) ggX7_hireBy_X7_hireFrom
theorem dX7_hireBy_0 : decode cX7_hireBy 0 = .ok (.aload_n 0, 1) := by decide +kernel
theorem dX7_hireBy_1 : decode cX7_hireBy 1 = .ok (.getfield 28, 3) := by decide +kernel
theorem dX7_hireBy_4 : decode cX7_hireBy 4 = .ok (.iload_n 1, 1) := by decide +kernel
theorem dX7_hireBy_5 : decode cX7_hireBy 5 = .ok (.iaload, 1) := by decide +kernel
theorem dX7_hireBy_6 : decode cX7_hireBy 6 = .ok (.aload_n 0, 1) := by decide +kernel
theorem dX7_hireBy_7 : decode cX7_hireBy 7 = .ok (.iload_n 2, 1) := by decide +kernel
theorem dX7_hireBy_8 : decode cX7_hireBy 8 = .ok (.aload_n 0, 1) := by decide +kernel
theorem dX7_hireBy_9 : decode cX7_hireBy 9 = .ok (.getfield 25, 3) := by decide +kernel
theorem dX7_hireBy_12 : decode cX7_hireBy 12 = .ok (.iload_n 1, 1) := by decide +kernel
theorem dX7_hireBy_13 : decode cX7_hireBy 13 = .ok (.iaload, 1) := by decide +kernel
theorem dX7_hireBy_14 : decode cX7_hireBy 14 = .ok (.iadd, 1) := by decide +kernel
theorem dX7_hireBy_15 : decode cX7_hireBy 15 = .ok (.iload_n 3, 1) := by decide +kernel
theorem dX7_hireBy_16 : decode cX7_hireBy 16 = .ok (.iload_n 1, 1) := by decide +kernel
theorem dX7_hireBy_17 : decode cX7_hireBy 17 = .ok (.ixor, 1) := by decide +kernel
theorem dX7_hireBy_18 : decode cX7_hireBy 18 = .ok (.invokevirtual 114, 3) := by decide +kernel
theorem dX7_hireBy_21 : decode cX7_hireBy 21 = .ok (.iadd, 1) := by decide +kernel
theorem dX7_hireBy_22 : decode cX7_hireBy 22 = .ok (.ireturn, 1) := by decide +kernel
theorem dX7_hireFrom_0 : decode cX7_hireFrom 0 = .ok (.aload_n 0, 1) := by decide +kernel
theorem dX7_hireFrom_1 : decode cX7_hireFrom 1 = .ok (.getfield 19, 3) := by decide +kernel
theorem dX7_hireFrom_4 : decode cX7_hireFrom 4 = .ok (.iload_n 1, 1) := by decide +kernel
theorem dX7_hireFrom_5 : decode cX7_hireFrom 5 = .ok (.laload, 1) := by decide +kernel
theorem dX7_hireFrom_6 : decode cX7_hireFrom 6 = .ok (.iload_n 2, 1) := by decide +kernel
theorem dX7_hireFrom_7 : decode cX7_hireFrom 7 = .ok (.lushr, 1) := by decide +kernel
theorem dX7_hireFrom_8 : decode cX7_hireFrom 8 = .ok (.lconst 1, 1) := by decide +kernel
theorem dX7_hireFrom_9 : decode cX7_hireFrom 9 = .ok (.land, 1) := by decide +kernel
theorem dX7_hireFrom_10 : decode cX7_hireFrom 10 = .ok (.lconst 0, 1) := by decide +kernel
theorem dX7_hireFrom_11 : decode cX7_hireFrom 11 = .ok (.lcmp, 1) := by decide +kernel
theorem dX7_hireFrom_12 : decode cX7_hireFrom 12 = .ok (.ifCond .eq 17, 3) := by decide +kernel
theorem dX7_hireFrom_15 : decode cX7_hireFrom 15 = .ok (.aload_n 0, 1) := by decide +kernel
theorem dX7_hireFrom_16 : decode cX7_hireFrom 16 = .ok (.getfield 22, 3) := by decide +kernel
theorem dX7_hireFrom_19 : decode cX7_hireFrom 19 = .ok (.iload_n 1, 1) := by decide +kernel
theorem dX7_hireFrom_20 : decode cX7_hireFrom 20 = .ok (.bipush 64, 2) := by decide +kernel
theorem dX7_hireFrom_22 : decode cX7_hireFrom 22 = .ok (.imul, 1) := by decide +kernel
theorem dX7_hireFrom_23 : decode cX7_hireFrom 23 = .ok (.iload_n 2, 1) := by decide +kernel
theorem dX7_hireFrom_24 : decode cX7_hireFrom 24 = .ok (.iadd, 1) := by decide +kernel
theorem dX7_hireFrom_25 : decode cX7_hireFrom 25 = .ok (.iaload, 1) := by decide +kernel
theorem dX7_hireFrom_26 : decode cX7_hireFrom 26 = .ok (.goto 5, 3) := by decide +kernel
theorem dX7_hireFrom_29 : decode cX7_hireFrom 29 = .ok (.ldc 130, 2) := by decide +kernel
theorem dX7_hireFrom_31 : decode cX7_hireFrom 31 = .ok (.ireturn, 1) := by decide +kernel
set_option maxRecDepth 20000 in
theorem ggX7_findRow_X7_firstOfLeast : GoodIn wsX7_findRow wsX7_firstOfLeast := goodIn_r _ [9, 1, 10, 11, 12, 8, 13, 14, 4, 15, 16, 17, 18, 19, 20, 21, 22, 23, 24, 25, 26, 27, 28, 29, 30, 31, 32, 33, 34, 35, 36, 37, 38, 39, 40, 41] (by decide +kernel) (by decide +kernel)
set_option maxRecDepth 20000 in
theorem gX7_findRow_X7_firstOfLeast : GoodIn wsX7_findRow (wsV RX7 131 RX7 yX7_firstOfLeast wsX7_firstOfLeast) := goodIn_app (goodIn_of _ (by decide +kernel)) ggX7_findRow_X7_firstOfLeast
theorem dX7_findRow_0 : decode cX7_findRow 0 = .ok (.iconst 0, 1) := by decide +kernel
theorem dX7_findRow_1 : decode cX7_findRow 1 = .ok (.istore_n 1, 1) := by decide +kernel
theorem dX7_findRow_2 : decode cX7_findRow 2 = .ok (.iconst 0, 1) := by decide +kernel
theorem dX7_findRow_3 : decode cX7_findRow 3 = .ok (.istore_n 2, 1) := by decide +kernel
theorem dX7_findRow_4 : decode cX7_findRow 4 = .ok (.iconst 0, 1) := by decide +kernel
theorem dX7_findRow_5 : decode cX7_findRow 5 = .ok (.istore_n 3, 1) := by decide +kernel
theorem dX7_findRow_6 : decode cX7_findRow 6 = .ok (.iload_n 3, 1) := by decide +kernel
theorem dX7_findRow_7 : decode cX7_findRow 7 = .ok (.aload_n 0, 1) := by decide +kernel
theorem dX7_findRow_8 : decode cX7_findRow 8 = .ok (.getfield 70, 3) := by decide +kernel
theorem dX7_findRow_11 : decode cX7_findRow 11 = .ok (.if_icmp .ge 84, 3) := by decide +kernel
theorem dX7_findRow_14 : decode cX7_findRow 14 = .ok (.iload_n 3, 1) := by decide +kernel
theorem dX7_findRow_15 : decode cX7_findRow 15 = .ok (.iload_n 2, 1) := by decide +kernel
theorem dX7_findRow_16 : decode cX7_findRow 16 = .ok (.if_icmp .ge 7, 3) := by decide +kernel
theorem dX7_findRow_19 : decode cX7_findRow 19 = .ok (.iconst 0, 1) := by decide +kernel
theorem dX7_findRow_20 : decode cX7_findRow 20 = .ok (.goto 9, 3) := by decide +kernel
theorem dX7_findRow_23 : decode cX7_findRow 23 = .ok (.aload_n 0, 1) := by decide +kernel
theorem dX7_findRow_24 : decode cX7_findRow 24 = .ok (.iload_n 3, 1) := by decide +kernel
theorem dX7_findRow_25 : decode cX7_findRow 25 = .ok (.iload_n 1, 1) := by decide +kernel
theorem dX7_findRow_26 : decode cX7_findRow 26 = .ok (.invokevirtual 131, 3) := by decide +kernel
theorem dX7_findRow_29 : decode cX7_findRow 29 = .ok (.istore 4, 2) := by decide +kernel
theorem dX7_findRow_31 : decode cX7_findRow 31 = .ok (.iload 4, 2) := by decide +kernel
theorem dX7_findRow_33 : decode cX7_findRow 33 = .ok (.ifCond .eq 56, 3) := by decide +kernel
theorem dX7_findRow_36 : decode cX7_findRow 36 = .ok (.aload_n 0, 1) := by decide +kernel
theorem dX7_findRow_37 : decode cX7_findRow 37 = .ok (.getfield 67, 3) := by decide +kernel
theorem dX7_findRow_40 : decode cX7_findRow 40 = .ok (.aload_n 0, 1) := by decide +kernel
theorem dX7_findRow_41 : decode cX7_findRow 41 = .ok (.getfield 9, 3) := by decide +kernel
theorem dX7_findRow_44 : decode cX7_findRow 44 = .ok (.arraylength, 1) := by decide +kernel
theorem dX7_findRow_45 : decode cX7_findRow 45 = .ok (.if_icmp .ge 44, 3) := by decide +kernel
theorem dX7_findRow_48 : decode cX7_findRow 48 = .ok (.aload_n 0, 1) := by decide +kernel
theorem dX7_findRow_49 : decode cX7_findRow 49 = .ok (.getfield 9, 3) := by decide +kernel
theorem dX7_findRow_52 : decode cX7_findRow 52 = .ok (.aload_n 0, 1) := by decide +kernel
theorem dX7_findRow_53 : decode cX7_findRow 53 = .ok (.getfield 67, 3) := by decide +kernel
theorem dX7_findRow_56 : decode cX7_findRow 56 = .ok (.bipush 64, 2) := by decide +kernel
theorem dX7_findRow_58 : decode cX7_findRow 58 = .ok (.iload_n 3, 1) := by decide +kernel
theorem dX7_findRow_59 : decode cX7_findRow 59 = .ok (.imul, 1) := by decide +kernel
theorem dX7_findRow_60 : decode cX7_findRow 60 = .ok (.iload 4, 2) := by decide +kernel
theorem dX7_findRow_62 : decode cX7_findRow 62 = .ok (.iadd, 1) := by decide +kernel
theorem dX7_findRow_63 : decode cX7_findRow 63 = .ok (.iastore, 1) := by decide +kernel
theorem dX7_findRow_64 : decode cX7_findRow 64 = .ok (.aload_n 0, 1) := by decide +kernel
theorem dX7_findRow_65 : decode cX7_findRow 65 = .ok (.dup, 1) := by decide +kernel
theorem dX7_findRow_66 : decode cX7_findRow 66 = .ok (.getfield 67, 3) := by decide +kernel
theorem dX7_findRow_69 : decode cX7_findRow 69 = .ok (.iconst 1, 1) := by decide +kernel
theorem dX7_findRow_70 : decode cX7_findRow 70 = .ok (.iadd, 1) := by decide +kernel
theorem dX7_findRow_71 : decode cX7_findRow 71 = .ok (.putfield 67, 3) := by decide +kernel
theorem dX7_findRow_74 : decode cX7_findRow 74 = .ok (.iload_n 1, 1) := by decide +kernel
theorem dX7_findRow_75 : decode cX7_findRow 75 = .ok (.iload 4, 2) := by decide +kernel
theorem dX7_findRow_77 : decode cX7_findRow 77 = .ok (.ixor, 1) := by decide +kernel
theorem dX7_findRow_78 : decode cX7_findRow 78 = .ok (.istore_n 1, 1) := by decide +kernel
theorem dX7_findRow_79 : decode cX7_findRow 79 = .ok (.iload_n 3, 1) := by decide +kernel
theorem dX7_findRow_80 : decode cX7_findRow 80 = .ok (.aload_n 0, 1) := by decide +kernel
theorem dX7_findRow_81 : decode cX7_findRow 81 = .ok (.getfield 25, 3) := by decide +kernel
theorem dX7_findRow_84 : decode cX7_findRow 84 = .ok (.iload 4, 2) := by decide +kernel
theorem dX7_findRow_86 : decode cX7_findRow 86 = .ok (.iaload, 1) := by decide +kernel
theorem dX7_findRow_87 : decode cX7_findRow 87 = .ok (.iadd, 1) := by decide +kernel
theorem dX7_findRow_88 : decode cX7_findRow 88 = .ok (.istore_n 2, 1) := by decide +kernel
theorem dX7_findRow_89 : decode cX7_findRow 89 = .ok (.iinc 3 1, 3) := by decide +kernel
theorem dX7_findRow_92 : decode cX7_findRow 92 = .ok (.goto (-86), 3) := by decide +kernel
theorem dX7_findRow_95 : decode cX7_findRow 95 = .ok (.return_, 1) := by decide +kernel
set_option maxRecDepth 20000 in
theorem ggX7_firstOfLeast_X7_mayCross : GoodIn wsX7_firstOfLeast wsX7_mayCross := goodIn_r _ [6, 7, 8, 24, 25, 26, 27, 28, 29, 30, 31, 32, 33, 34, 35] (by decide +kernel) (by decide +kernel)
set_option maxRecDepth 20000 in
theorem gX7_firstOfLeast_X7_mayCross : GoodIn wsX7_firstOfLeast (wsV RX7 102 RX7 yX7_mayCross wsX7_mayCross) := goodIn_app (goodIn_of _ (by decide +kernel)) ggX7_firstOfLeast_X7_mayCross
set_option maxRecDepth 20000 in
theorem ggX7_firstOfLeast_X10_isOnOneSide : GoodIn wsX7_firstOfLeast wsX10_isOnOneSide := goodIn_r _ [11] (by decide +kernel) (by decide +kernel)
set_option maxRecDepth 20000 in
theorem gX7_firstOfLeast_X10_isOnOneSide_n117 : GoodIn wsX7_firstOfLeast (wsX10_isOnOneSide) := ggX7_firstOfLeast_X10_isOnOneSide
set_option maxRecDepth 20000 in
theorem ggX7_firstOfLeast_X7_hireBy : GoodIn wsX7_firstOfLeast wsX7_hireBy := goodIn_r _ [15, 16, 8, 17, 18, 19, 5, 20, 21, 22, 23, 24, 25, 26, 27, 28, 29, 30, 31, 32, 33, 34, 35] (by decide +kernel) (by decide +kernel)
set_option maxRecDepth 20000 in
theorem gX7_firstOfLeast_X7_hireBy : GoodIn wsX7_firstOfLeast (wsV RX7 121 RX7 yX7_hireBy wsX7_hireBy) := goodIn_app (goodIn_of _ (by decide +kernel)) ggX7_firstOfLeast_X7_hireBy
set_option maxRecDepth 20000 in
theorem ggX7_firstOfLeast_X7_hireFrom : GoodIn wsX7_firstOfLeast wsX7_hireFrom := goodIn_r _ [20, 21, 22, 23, 24, 25, 26, 27, 28, 29, 30, 31, 32, 33, 34, 35] (by decide +kernel) (by decide +kernel)
set_option maxRecDepth 20000 in
theorem gX7_firstOfLeast_X7_hireFrom : GoodIn wsX7_firstOfLeast (wsV RX7 114 RX7 yX7_hireFrom wsX7_hireFrom) := goodIn_app (goodIn_of _ (by decide +kernel)) ggX7_firstOfLeast_X7_hireFrom
theorem dX7_firstOfLeast_0 : decode cX7_firstOfLeast 0 = .ok (.getstatic 42, 3) := by decide +kernel
theorem dX7_firstOfLeast_3 : decode cX7_firstOfLeast 3 = .ok (.astore_n 3, 1) := by decide +kernel
theorem dX7_firstOfLeast_4 : decode cX7_firstOfLeast 4 = .ok (.aload_n 3, 1) := by decide +kernel
theorem dX7_firstOfLeast_5 : decode cX7_firstOfLeast 5 = .ok (.arraylength, 1) := by decide +kernel
theorem dX7_firstOfLeast_6 : decode cX7_firstOfLeast 6 = .ok (.istore 4, 2) := by decide +kernel
theorem dX7_firstOfLeast_8 : decode cX7_firstOfLeast 8 = .ok (.iconst 0, 1) := by decide +kernel
theorem dX7_firstOfLeast_9 : decode cX7_firstOfLeast 9 = .ok (.istore 5, 2) := by decide +kernel
theorem dX7_firstOfLeast_11 : decode cX7_firstOfLeast 11 = .ok (.iload 5, 2) := by decide +kernel
theorem dX7_firstOfLeast_13 : decode cX7_firstOfLeast 13 = .ok (.iload 4, 2) := by decide +kernel
theorem dX7_firstOfLeast_15 : decode cX7_firstOfLeast 15 = .ok (.if_icmp .ge 58, 3) := by decide +kernel
theorem dX7_firstOfLeast_18 : decode cX7_firstOfLeast 18 = .ok (.aload_n 3, 1) := by decide +kernel
theorem dX7_firstOfLeast_19 : decode cX7_firstOfLeast 19 = .ok (.iload 5, 2) := by decide +kernel
theorem dX7_firstOfLeast_21 : decode cX7_firstOfLeast 21 = .ok (.iaload, 1) := by decide +kernel
theorem dX7_firstOfLeast_22 : decode cX7_firstOfLeast 22 = .ok (.istore 6, 2) := by decide +kernel
theorem dX7_firstOfLeast_24 : decode cX7_firstOfLeast 24 = .ok (.aload_n 0, 1) := by decide +kernel
theorem dX7_firstOfLeast_25 : decode cX7_firstOfLeast 25 = .ok (.iload 6, 2) := by decide +kernel
theorem dX7_firstOfLeast_27 : decode cX7_firstOfLeast 27 = .ok (.iload_n 1, 1) := by decide +kernel
theorem dX7_firstOfLeast_28 : decode cX7_firstOfLeast 28 = .ok (.aload_n 0, 1) := by decide +kernel
theorem dX7_firstOfLeast_29 : decode cX7_firstOfLeast 29 = .ok (.getfield 70, 3) := by decide +kernel
theorem dX7_firstOfLeast_32 : decode cX7_firstOfLeast 32 = .ok (.invokevirtual 102, 3) := by decide +kernel
theorem dX7_firstOfLeast_35 : decode cX7_firstOfLeast 35 = .ok (.ifCond .eq 32, 3) := by decide +kernel
theorem dX7_firstOfLeast_38 : decode cX7_firstOfLeast 38 = .ok (.iload 6, 2) := by decide +kernel
theorem dX7_firstOfLeast_40 : decode cX7_firstOfLeast 40 = .ok (.iload_n 2, 1) := by decide +kernel
theorem dX7_firstOfLeast_41 : decode cX7_firstOfLeast 41 = .ok (.invokestatic 117, 3) := by decide +kernel
theorem dX7_firstOfLeast_44 : decode cX7_firstOfLeast 44 = .ok (.ifCond .eq 23, 3) := by decide +kernel
theorem dX7_firstOfLeast_47 : decode cX7_firstOfLeast 47 = .ok (.aload_n 0, 1) := by decide +kernel
theorem dX7_firstOfLeast_48 : decode cX7_firstOfLeast 48 = .ok (.iload 6, 2) := by decide +kernel
theorem dX7_firstOfLeast_50 : decode cX7_firstOfLeast 50 = .ok (.iload_n 1, 1) := by decide +kernel
theorem dX7_firstOfLeast_51 : decode cX7_firstOfLeast 51 = .ok (.iload_n 2, 1) := by decide +kernel
theorem dX7_firstOfLeast_52 : decode cX7_firstOfLeast 52 = .ok (.invokevirtual 121, 3) := by decide +kernel
theorem dX7_firstOfLeast_55 : decode cX7_firstOfLeast 55 = .ok (.aload_n 0, 1) := by decide +kernel
theorem dX7_firstOfLeast_56 : decode cX7_firstOfLeast 56 = .ok (.iload_n 1, 1) := by decide +kernel
theorem dX7_firstOfLeast_57 : decode cX7_firstOfLeast 57 = .ok (.iload_n 2, 1) := by decide +kernel
theorem dX7_firstOfLeast_58 : decode cX7_firstOfLeast 58 = .ok (.invokevirtual 114, 3) := by decide +kernel
theorem dX7_firstOfLeast_61 : decode cX7_firstOfLeast 61 = .ok (.if_icmp .ne 6, 3) := by decide +kernel
theorem dX7_firstOfLeast_64 : decode cX7_firstOfLeast 64 = .ok (.iload 6, 2) := by decide +kernel
theorem dX7_firstOfLeast_66 : decode cX7_firstOfLeast 66 = .ok (.ireturn, 1) := by decide +kernel
theorem dX7_firstOfLeast_67 : decode cX7_firstOfLeast 67 = .ok (.iinc 5 1, 3) := by decide +kernel
theorem dX7_firstOfLeast_70 : decode cX7_firstOfLeast 70 = .ok (.goto (-59), 3) := by decide +kernel
theorem dX7_firstOfLeast_73 : decode cX7_firstOfLeast 73 = .ok (.iconst 0, 1) := by decide +kernel
theorem dX7_firstOfLeast_74 : decode cX7_firstOfLeast 74 = .ok (.ireturn, 1) := by decide +kernel
set_option maxRecDepth 20000 in
theorem ggX8_init_X1_init : GoodIn wsX8_init wsX1_init := goodIn_r _ [14, 15, 2, 3, 16, 17, 8, 18, 19, 20, 21, 22, 23, 24, 25, 26, 27, 28, 29, 30, 31, 32, 33, 34, 35, 36, 37, 38, 39, 40, 41, 42, 43, 44, 45, 46, 56, 57, 58, 59, 60, 61, 62, 63, 64, 65, 66, 67, 68, 69, 70, 71, 72, 73, 74, 75, 76, 77, 78, 79] (by decide +kernel) (by decide +kernel)
set_option maxRecDepth 20000 in
theorem gX8_init_X1_init : GoodIn wsX8_init (wsX1_init) := ggX8_init_X1_init
theorem dX8_init_0 : decode cX8_init 0 = .ok (.aload_n 0, 1) := by decide +kernel
theorem dX8_init_1 : decode cX8_init 1 = .ok (.invokespecial 3, 3) := by decide +kernel
theorem dX8_init_4 : decode cX8_init 4 = .ok (.aload_n 0, 1) := by decide +kernel
theorem dX8_init_5 : decode cX8_init 5 = .ok (.new 9, 3) := by decide +kernel
theorem dX8_init_8 : decode cX8_init 8 = .ok (.dup, 1) := by decide +kernel
theorem dX8_init_9 : decode cX8_init 9 = .ok (.invokespecial 11, 3) := by decide +kernel
theorem dX8_init_12 : decode cX8_init 12 = .ok (.putfield 12, 3) := by decide +kernel
theorem dX8_init_15 : decode cX8_init 15 = .ok (.aload_n 0, 1) := by decide +kernel
theorem dX8_init_16 : decode cX8_init 16 = .ok (.getstatic 18, 3) := by decide +kernel
theorem dX8_init_19 : decode cX8_init 19 = .ok (.arraylength, 1) := by decide +kernel
theorem dX8_init_20 : decode cX8_init 20 = .ok (.newarray .int, 2) := by decide +kernel
theorem dX8_init_22 : decode cX8_init 22 = .ok (.putfield 22, 3) := by decide +kernel
theorem dX8_init_25 : decode cX8_init 25 = .ok (.aload_n 0, 1) := by decide +kernel
theorem dX8_init_26 : decode cX8_init 26 = .ok (.aload_n 0, 1) := by decide +kernel
theorem dX8_init_27 : decode cX8_init 27 = .ok (.getfield 12, 3) := by decide +kernel
theorem dX8_init_30 : decode cX8_init 30 = .ok (.getfield 25, 3) := by decide +kernel
theorem dX8_init_33 : decode cX8_init 33 = .ok (.putfield 28, 3) := by decide +kernel
theorem dX8_init_36 : decode cX8_init 36 = .ok (.return_, 1) := by decide +kernel
set_option maxRecDepth 20000 in
theorem ggX8_faultOf_X1_forgetDay : GoodIn wsX8_faultOf wsX1_forgetDay := goodIn_r _ [18, 19, 20, 21, 22, 23, 24, 25, 184, 185, 186, 187, 188, 189, 190, 191, 192, 193] (by decide +kernel) (by decide +kernel)
set_option maxRecDepth 20000 in
theorem gX8_faultOf_X1_forgetDay : GoodIn wsX8_faultOf (wsV RX8 48 RX1 yX1_forgetDay wsX1_forgetDay) := goodIn_app (goodIn_of _ (by decide +kernel)) ggX8_faultOf_X1_forgetDay
set_option maxRecDepth 20000 in
theorem ggX8_faultOf_X8_nextToken : GoodIn wsX8_faultOf wsX8_nextToken := goodIn_r _ [30, 9, 8, 2, 13, 12, 31, 32, 29, 33, 34, 35, 36, 37, 38, 39, 40, 41, 194, 195, 196, 197, 198, 199, 200, 201, 202] (by decide +kernel) (by decide +kernel)
set_option maxRecDepth 20000 in
theorem gX8_faultOf_X8_nextToken : GoodIn wsX8_faultOf (wsV RX8 51 RX8 yX8_nextToken wsX8_nextToken) := goodIn_app (goodIn_of _ (by decide +kernel)) ggX8_faultOf_X8_nextToken
set_option maxRecDepth 20000 in
theorem ggX8_faultOf_X8_wordAtToken : GoodIn wsX8_faultOf wsX8_wordAtToken := goodIn_r _ [45, 12, 46, 47, 29, 48, 49, 50, 51, 52, 9, 13, 8, 2, 53, 54, 55, 56, 57, 58, 59, 60, 61, 62, 63, 64, 65, 66, 67, 68, 69, 70, 71, 72, 73, 74, 75, 76, 77, 78, 79, 80, 81, 82, 83, 84, 85, 86, 87, 88, 89, 90, 91, 92, 93, 94, 95, 96, 97, 98, 99, 100, 101, 194, 195, 196, 197, 198, 199, 200, 201, 202] (by decide +kernel) (by decide +kernel)
set_option maxRecDepth 20000 in
theorem gX8_faultOf_X8_wordAtToken : GoodIn wsX8_faultOf (wsV RX8 57 RX8 yX8_wordAtToken wsX8_wordAtToken) := goodIn_app (goodIn_of _ (by decide +kernel)) ggX8_faultOf_X8_wordAtToken
set_option maxRecDepth 20000 in
theorem ggX8_faultOf_X8_takesPorter : GoodIn wsX8_faultOf wsX8_takesPorter := goodIn_r _ [105, 11, 106, 107, 41, 26, 27, 28, 29, 30, 9, 8, 2, 13, 12, 31, 32, 33, 34, 35, 36, 37, 38, 39, 40, 108, 109, 110, 111, 112, 113, 114, 115, 116, 117, 118, 119, 120, 121, 122, 123, 124, 125, 126, 127, 128, 129, 130, 131, 132, 133, 134, 135, 136, 137, 138, 139, 140, 141, 142, 143, 144, 145, 146, 147, 148, 149, 150, 151, 152, 153, 154, 155, 156, 157, 158, 159, 160, 161, 162, 163, 164, 165, 17, 166, 19, 167, 194, 195, 196, 197, 198, 199, 200, 201, 202, 184, 185, 186, 187, 188, 189, 190, 191, 192, 193, 203, 204, 205, 206, 207, 208, 209, 210, 211, 212, 213, 214, 215, 216, 217, 218, 219, 220, 221, 222, 223, 224, 225, 226] (by decide +kernel) (by decide +kernel)
set_option maxRecDepth 20000 in
theorem gX8_faultOf_X8_takesPorter : GoodIn wsX8_faultOf (wsV RX8 61 RX8 yX8_takesPorter wsX8_takesPorter) := goodIn_app (goodIn_of _ (by decide +kernel)) ggX8_faultOf_X8_takesPorter
set_option maxRecDepth 20000 in
theorem ggX8_faultOf_X8_takesGo : GoodIn wsX8_faultOf wsX8_takesGo := goodIn_r _ [171, 11, 172, 41, 10, 106, 12, 26, 27, 28, 29, 30, 9, 8, 2, 13, 31, 32, 33, 34, 35, 36, 37, 38, 39, 40, 108, 109, 110, 111, 173, 174, 175, 17, 176, 20, 177, 178, 194, 195, 196, 197, 198, 199, 200, 201, 202, 184, 185, 186, 187, 188, 189, 190, 191, 192, 193] (by decide +kernel) (by decide +kernel)
set_option maxRecDepth 20000 in
theorem gX8_faultOf_X8_takesGo : GoodIn wsX8_faultOf (wsV RX8 65 RX8 yX8_takesGo wsX8_takesGo) := goodIn_app (goodIn_of _ (by decide +kernel)) ggX8_faultOf_X8_takesGo
set_option maxRecDepth 20000 in
theorem ggX8_faultOf_X8_takesNumber : GoodIn wsX8_faultOf wsX8_takesNumber := goodIn_r _ [182, 41, 11, 183, 26, 27, 28, 29, 30, 9, 8, 2, 13, 12, 31, 32, 33, 34, 35, 36, 37, 38, 39, 40, 108, 109, 110, 111, 194, 195, 196, 197, 198, 199, 200, 201, 202, 184, 185, 186, 187, 188, 189, 190, 191, 192, 193] (by decide +kernel) (by decide +kernel)
set_option maxRecDepth 20000 in
theorem gX8_faultOf_X8_takesNumber : GoodIn wsX8_faultOf (wsV RX8 68 RX8 yX8_takesNumber wsX8_takesNumber) := goodIn_app (goodIn_of _ (by decide +kernel)) ggX8_faultOf_X8_takesNumber
theorem dX8_faultOf_0 : decode cX8_faultOf 0 = .ok (.aload_n 0, 1) := by decide +kernel
theorem dX8_faultOf_1 : decode cX8_faultOf 1 = .ok (.aload_n 1, 1) := by decide +kernel
theorem dX8_faultOf_2 : decode cX8_faultOf 2 = .ok (.getfield 25, 3) := by decide +kernel
theorem dX8_faultOf_5 : decode cX8_faultOf 5 = .ok (.putfield 28, 3) := by decide +kernel
theorem dX8_faultOf_8 : decode cX8_faultOf 8 = .ok (.aload_n 0, 1) := by decide +kernel
theorem dX8_faultOf_9 : decode cX8_faultOf 9 = .ok (.aload_n 1, 1) := by decide +kernel
theorem dX8_faultOf_10 : decode cX8_faultOf 10 = .ok (.getfield 29, 3) := by decide +kernel
theorem dX8_faultOf_13 : decode cX8_faultOf 13 = .ok (.aload_n 0, 1) := by decide +kernel
theorem dX8_faultOf_14 : decode cX8_faultOf 14 = .ok (.getfield 28, 3) := by decide +kernel
theorem dX8_faultOf_17 : decode cX8_faultOf 17 = .ok (.arraylength, 1) := by decide +kernel
theorem dX8_faultOf_18 : decode cX8_faultOf 18 = .ok (.invokestatic 33, 3) := by decide +kernel
theorem dX8_faultOf_21 : decode cX8_faultOf 21 = .ok (.putfield 39, 3) := by decide +kernel
theorem dX8_faultOf_24 : decode cX8_faultOf 24 = .ok (.aload_n 0, 1) := by decide +kernel
theorem dX8_faultOf_25 : decode cX8_faultOf 25 = .ok (.iconst 0, 1) := by decide +kernel
theorem dX8_faultOf_26 : decode cX8_faultOf 26 = .ok (.putfield 42, 3) := by decide +kernel
theorem dX8_faultOf_29 : decode cX8_faultOf 29 = .ok (.aload_n 0, 1) := by decide +kernel
theorem dX8_faultOf_30 : decode cX8_faultOf 30 = .ok (.iconst 0, 1) := by decide +kernel
theorem dX8_faultOf_31 : decode cX8_faultOf 31 = .ok (.putfield 45, 3) := by decide +kernel
theorem dX8_faultOf_34 : decode cX8_faultOf 34 = .ok (.aload_n 0, 1) := by decide +kernel
theorem dX8_faultOf_35 : decode cX8_faultOf 35 = .ok (.getfield 12, 3) := by decide +kernel
theorem dX8_faultOf_38 : decode cX8_faultOf 38 = .ok (.invokevirtual 48, 3) := by decide +kernel
theorem dX8_faultOf_41 : decode cX8_faultOf 41 = .ok (.aload_n 0, 1) := by decide +kernel
theorem dX8_faultOf_42 : decode cX8_faultOf 42 = .ok (.invokevirtual 51, 3) := by decide +kernel
theorem dX8_faultOf_45 : decode cX8_faultOf 45 = .ok (.iconst 0, 1) := by decide +kernel
theorem dX8_faultOf_46 : decode cX8_faultOf 46 = .ok (.istore_n 2, 1) := by decide +kernel
theorem dX8_faultOf_47 : decode cX8_faultOf 47 = .ok (.iload_n 2, 1) := by decide +kernel
theorem dX8_faultOf_48 : decode cX8_faultOf 48 = .ok (.sipush 200, 3) := by decide +kernel
theorem dX8_faultOf_51 : decode cX8_faultOf 51 = .ok (.if_icmp .ge 74, 3) := by decide +kernel
theorem dX8_faultOf_54 : decode cX8_faultOf 54 = .ok (.aload_n 0, 1) := by decide +kernel
theorem dX8_faultOf_55 : decode cX8_faultOf 55 = .ok (.getfield 54, 3) := by decide +kernel
theorem dX8_faultOf_58 : decode cX8_faultOf 58 = .ok (.ifCond .eq 67, 3) := by decide +kernel
theorem dX8_faultOf_61 : decode cX8_faultOf 61 = .ok (.aload_n 0, 1) := by decide +kernel
theorem dX8_faultOf_62 : decode cX8_faultOf 62 = .ok (.invokevirtual 57, 3) := by decide +kernel
theorem dX8_faultOf_65 : decode cX8_faultOf 65 = .ok (.istore_n 3, 1) := by decide +kernel
theorem dX8_faultOf_66 : decode cX8_faultOf 66 = .ok (.iload_n 3, 1) := by decide +kernel
theorem dX8_faultOf_67 : decode cX8_faultOf 67 = .ok (.iconst 4, 1) := by decide +kernel
theorem dX8_faultOf_68 : decode cX8_faultOf 68 = .ok (.if_icmp .ne 10, 3) := by decide +kernel
theorem dX8_faultOf_71 : decode cX8_faultOf 71 = .ok (.aload_n 0, 1) := by decide +kernel
theorem dX8_faultOf_72 : decode cX8_faultOf 72 = .ok (.invokevirtual 61, 3) := by decide +kernel
theorem dX8_faultOf_75 : decode cX8_faultOf 75 = .ok (.goto 20, 3) := by decide +kernel
theorem dX8_faultOf_78 : decode cX8_faultOf 78 = .ok (.iload_n 3, 1) := by decide +kernel
theorem dX8_faultOf_79 : decode cX8_faultOf 79 = .ok (.iconst 5, 1) := by decide +kernel
theorem dX8_faultOf_80 : decode cX8_faultOf 80 = .ok (.if_icmp .ne 10, 3) := by decide +kernel
theorem dX8_faultOf_83 : decode cX8_faultOf 83 = .ok (.aload_n 0, 1) := by decide +kernel
theorem dX8_faultOf_84 : decode cX8_faultOf 84 = .ok (.invokevirtual 65, 3) := by decide +kernel
theorem dX8_faultOf_87 : decode cX8_faultOf 87 = .ok (.goto 8, 3) := by decide +kernel
theorem dX8_faultOf_90 : decode cX8_faultOf 90 = .ok (.aload_n 0, 1) := by decide +kernel
theorem dX8_faultOf_91 : decode cX8_faultOf 91 = .ok (.iload_n 3, 1) := by decide +kernel
theorem dX8_faultOf_92 : decode cX8_faultOf 92 = .ok (.invokevirtual 68, 3) := by decide +kernel
theorem dX8_faultOf_95 : decode cX8_faultOf 95 = .ok (.istore 4, 2) := by decide +kernel
theorem dX8_faultOf_97 : decode cX8_faultOf 97 = .ok (.iload 4, 2) := by decide +kernel
theorem dX8_faultOf_99 : decode cX8_faultOf 99 = .ok (.ifCond .eq 11, 3) := by decide +kernel
theorem dX8_faultOf_102 : decode cX8_faultOf 102 = .ok (.aload_n 0, 1) := by decide +kernel
theorem dX8_faultOf_103 : decode cX8_faultOf 103 = .ok (.getfield 54, 3) := by decide +kernel
theorem dX8_faultOf_106 : decode cX8_faultOf 106 = .ok (.iconst 3, 1) := by decide +kernel
theorem dX8_faultOf_107 : decode cX8_faultOf 107 = .ok (.if_icmp .eq 8, 3) := by decide +kernel
theorem dX8_faultOf_110 : decode cX8_faultOf 110 = .ok (.aload_n 0, 1) := by decide +kernel
theorem dX8_faultOf_111 : decode cX8_faultOf 111 = .ok (.getfield 72, 3) := by decide +kernel
theorem dX8_faultOf_114 : decode cX8_faultOf 114 = .ok (.ireturn, 1) := by decide +kernel
theorem dX8_faultOf_115 : decode cX8_faultOf 115 = .ok (.aload_n 0, 1) := by decide +kernel
theorem dX8_faultOf_116 : decode cX8_faultOf 116 = .ok (.invokevirtual 51, 3) := by decide +kernel
theorem dX8_faultOf_119 : decode cX8_faultOf 119 = .ok (.iinc 2 1, 3) := by decide +kernel
theorem dX8_faultOf_122 : decode cX8_faultOf 122 = .ok (.goto (-75), 3) := by decide +kernel
theorem dX8_faultOf_125 : decode cX8_faultOf 125 = .ok (.iconst (-1), 1) := by decide +kernel
theorem dX8_faultOf_126 : decode cX8_faultOf 126 = .ok (.ireturn, 1) := by decide +kernel
set_option maxRecDepth 20000 in
theorem ggX8_takesPorter_X8_nextToken : GoodIn wsX8_takesPorter wsX8_nextToken := goodIn_r _ [9, 10, 11, 12, 13, 14, 15, 16, 8, 17, 18, 19, 20, 21, 22, 23, 24, 4, 87, 88, 89, 90, 91, 92, 93, 94, 95] (by decide +kernel) (by decide +kernel)
set_option maxRecDepth 20000 in
theorem gX8_takesPorter_X8_nextToken : GoodIn wsX8_takesPorter (wsV RX8 51 RX8 yX8_nextToken wsX8_nextToken) := goodIn_app (goodIn_of _ (by decide +kernel)) ggX8_takesPorter_X8_nextToken
set_option maxRecDepth 20000 in
theorem ggX8_takesPorter_X8_takesIfIn : GoodIn wsX8_takesPorter wsX8_takesIfIn := goodIn_r _ [28, 14, 4, 5, 6, 7, 8, 9, 10, 11, 12, 13, 15, 16, 17, 18, 19, 20, 21, 22, 23, 24, 87, 88, 89, 90, 91, 92, 93, 94, 95] (by decide +kernel) (by decide +kernel)
set_option maxRecDepth 20000 in
theorem gX8_takesPorter_X8_takesIfIn : GoodIn wsX8_takesPorter (wsV RX8 84 RX8 yX8_takesIfIn wsX8_takesIfIn) := goodIn_app (goodIn_of _ (by decide +kernel)) ggX8_takesPorter_X8_takesIfIn
set_option maxRecDepth 20000 in
theorem ggX8_takesPorter_X10_newPorter : GoodIn wsX8_takesPorter wsX10_newPorter := goodIn_r _ [31, 32, 33, 34, 35, 36, 37, 38, 39, 40, 41, 42, 43, 44, 45, 46, 47, 48, 49, 50, 51, 52, 53, 54, 55, 56, 57, 58, 59, 60, 61, 62, 63, 64, 65, 66, 67, 68, 69, 70, 71, 72, 73, 74, 75, 76, 77, 78, 79, 106, 107, 108, 109, 110, 111, 112, 113, 114, 115, 116, 117, 118, 119, 120, 121, 122, 123, 124, 125, 126, 127, 128, 129] (by decide +kernel) (by decide +kernel)
set_option maxRecDepth 20000 in
theorem gX8_takesPorter_X10_newPorter_n88 : GoodIn wsX8_takesPorter (wsX10_newPorter) := ggX8_takesPorter_X10_newPorter
set_option maxRecDepth 20000 in
theorem ggX8_takesPorter_X1_addPorter : GoodIn wsX8_takesPorter wsX1_addPorter := goodIn_r _ [84, 85, 86, 96, 97, 98, 99, 100, 101, 102, 103, 104, 105] (by decide +kernel) (by decide +kernel)
set_option maxRecDepth 20000 in
theorem gX8_takesPorter_X1_addPorter : GoodIn wsX8_takesPorter (wsV RX8 92 RX1 yX1_addPorter wsX1_addPorter) := goodIn_app (goodIn_of _ (by decide +kernel)) ggX8_takesPorter_X1_addPorter
theorem dX8_takesPorter_0 : decode cX8_takesPorter 0 = .ok (.aload_n 0, 1) := by decide +kernel
theorem dX8_takesPorter_1 : decode cX8_takesPorter 1 = .ok (.getfield 12, 3) := by decide +kernel
theorem dX8_takesPorter_4 : decode cX8_takesPorter 4 = .ok (.getfield 75, 3) := by decide +kernel
theorem dX8_takesPorter_7 : decode cX8_takesPorter 7 = .ok (.bipush 6, 2) := by decide +kernel
theorem dX8_takesPorter_9 : decode cX8_takesPorter 9 = .ok (.if_icmp .lt 5, 3) := by decide +kernel
theorem dX8_takesPorter_12 : decode cX8_takesPorter 12 = .ok (.iconst 0, 1) := by decide +kernel
theorem dX8_takesPorter_13 : decode cX8_takesPorter 13 = .ok (.ireturn, 1) := by decide +kernel
theorem dX8_takesPorter_14 : decode cX8_takesPorter 14 = .ok (.aload_n 0, 1) := by decide +kernel
theorem dX8_takesPorter_15 : decode cX8_takesPorter 15 = .ok (.invokevirtual 51, 3) := by decide +kernel
theorem dX8_takesPorter_18 : decode cX8_takesPorter 18 = .ok (.iconst 0, 1) := by decide +kernel
theorem dX8_takesPorter_19 : decode cX8_takesPorter 19 = .ok (.istore_n 1, 1) := by decide +kernel
theorem dX8_takesPorter_20 : decode cX8_takesPorter 20 = .ok (.iload_n 1, 1) := by decide +kernel
theorem dX8_takesPorter_21 : decode cX8_takesPorter 21 = .ok (.aload_n 0, 1) := by decide +kernel
theorem dX8_takesPorter_22 : decode cX8_takesPorter 22 = .ok (.getfield 22, 3) := by decide +kernel
theorem dX8_takesPorter_25 : decode cX8_takesPorter 25 = .ok (.arraylength, 1) := by decide +kernel
theorem dX8_takesPorter_26 : decode cX8_takesPorter 26 = .ok (.if_icmp .ge 38, 3) := by decide +kernel
theorem dX8_takesPorter_29 : decode cX8_takesPorter 29 = .ok (.aload_n 0, 1) := by decide +kernel
theorem dX8_takesPorter_30 : decode cX8_takesPorter 30 = .ok (.getfield 22, 3) := by decide +kernel
theorem dX8_takesPorter_33 : decode cX8_takesPorter 33 = .ok (.iload_n 1, 1) := by decide +kernel
theorem dX8_takesPorter_34 : decode cX8_takesPorter 34 = .ok (.aload_n 0, 1) := by decide +kernel
theorem dX8_takesPorter_35 : decode cX8_takesPorter 35 = .ok (.getfield 78, 3) := by decide +kernel
theorem dX8_takesPorter_38 : decode cX8_takesPorter 38 = .ok (.iastore, 1) := by decide +kernel
theorem dX8_takesPorter_39 : decode cX8_takesPorter 39 = .ok (.aload_n 0, 1) := by decide +kernel
theorem dX8_takesPorter_40 : decode cX8_takesPorter 40 = .ok (.getstatic 18, 3) := by decide +kernel
theorem dX8_takesPorter_43 : decode cX8_takesPorter 43 = .ok (.iload_n 1, 1) := by decide +kernel
theorem dX8_takesPorter_44 : decode cX8_takesPorter 44 = .ok (.iaload, 1) := by decide +kernel
theorem dX8_takesPorter_45 : decode cX8_takesPorter 45 = .ok (.getstatic 81, 3) := by decide +kernel
theorem dX8_takesPorter_48 : decode cX8_takesPorter 48 = .ok (.iload_n 1, 1) := by decide +kernel
theorem dX8_takesPorter_49 : decode cX8_takesPorter 49 = .ok (.iaload, 1) := by decide +kernel
theorem dX8_takesPorter_50 : decode cX8_takesPorter 50 = .ok (.invokevirtual 84, 3) := by decide +kernel
theorem dX8_takesPorter_53 : decode cX8_takesPorter 53 = .ok (.ifCond .ne 5, 3) := by decide +kernel
theorem dX8_takesPorter_56 : decode cX8_takesPorter 56 = .ok (.iconst 0, 1) := by decide +kernel
theorem dX8_takesPorter_57 : decode cX8_takesPorter 57 = .ok (.ireturn, 1) := by decide +kernel
theorem dX8_takesPorter_58 : decode cX8_takesPorter 58 = .ok (.iinc 1 1, 3) := by decide +kernel
theorem dX8_takesPorter_61 : decode cX8_takesPorter 61 = .ok (.goto (-41), 3) := by decide +kernel
theorem dX8_takesPorter_64 : decode cX8_takesPorter 64 = .ok (.aload_n 0, 1) := by decide +kernel
theorem dX8_takesPorter_65 : decode cX8_takesPorter 65 = .ok (.getfield 12, 3) := by decide +kernel
theorem dX8_takesPorter_68 : decode cX8_takesPorter 68 = .ok (.aload_n 0, 1) := by decide +kernel
theorem dX8_takesPorter_69 : decode cX8_takesPorter 69 = .ok (.getfield 22, 3) := by decide +kernel
theorem dX8_takesPorter_72 : decode cX8_takesPorter 72 = .ok (.iconst 0, 1) := by decide +kernel
theorem dX8_takesPorter_73 : decode cX8_takesPorter 73 = .ok (.iaload, 1) := by decide +kernel
theorem dX8_takesPorter_74 : decode cX8_takesPorter 74 = .ok (.aload_n 0, 1) := by decide +kernel
theorem dX8_takesPorter_75 : decode cX8_takesPorter 75 = .ok (.getfield 22, 3) := by decide +kernel
theorem dX8_takesPorter_78 : decode cX8_takesPorter 78 = .ok (.iconst 1, 1) := by decide +kernel
theorem dX8_takesPorter_79 : decode cX8_takesPorter 79 = .ok (.iaload, 1) := by decide +kernel
theorem dX8_takesPorter_80 : decode cX8_takesPorter 80 = .ok (.aload_n 0, 1) := by decide +kernel
theorem dX8_takesPorter_81 : decode cX8_takesPorter 81 = .ok (.getfield 22, 3) := by decide +kernel
theorem dX8_takesPorter_84 : decode cX8_takesPorter 84 = .ok (.iconst 2, 1) := by decide +kernel
theorem dX8_takesPorter_85 : decode cX8_takesPorter 85 = .ok (.iaload, 1) := by decide +kernel
theorem dX8_takesPorter_86 : decode cX8_takesPorter 86 = .ok (.aload_n 0, 1) := by decide +kernel
theorem dX8_takesPorter_87 : decode cX8_takesPorter 87 = .ok (.getfield 22, 3) := by decide +kernel
theorem dX8_takesPorter_90 : decode cX8_takesPorter 90 = .ok (.iconst 3, 1) := by decide +kernel
theorem dX8_takesPorter_91 : decode cX8_takesPorter 91 = .ok (.iaload, 1) := by decide +kernel
theorem dX8_takesPorter_92 : decode cX8_takesPorter 92 = .ok (.invokestatic 88, 3) := by decide +kernel
theorem dX8_takesPorter_95 : decode cX8_takesPorter 95 = .ok (.invokevirtual 92, 3) := by decide +kernel
theorem dX8_takesPorter_98 : decode cX8_takesPorter 98 = .ok (.iconst 1, 1) := by decide +kernel
theorem dX8_takesPorter_99 : decode cX8_takesPorter 99 = .ok (.ireturn, 1) := by decide +kernel
set_option maxRecDepth 20000 in
theorem ggX8_takesNumber_X8_nextToken : GoodIn wsX8_takesNumber wsX8_nextToken := goodIn_r _ [8, 9, 10, 11, 12, 13, 14, 15, 7, 16, 17, 18, 19, 20, 21, 22, 23, 1, 28, 29, 30, 31, 32, 33, 34, 35, 36] (by decide +kernel) (by decide +kernel)
set_option maxRecDepth 20000 in
theorem gX8_takesNumber_X8_nextToken : GoodIn wsX8_takesNumber (wsV RX8 51 RX8 yX8_nextToken wsX8_nextToken) := goodIn_app (goodIn_of _ (by decide +kernel)) ggX8_takesNumber_X8_nextToken
set_option maxRecDepth 20000 in
theorem ggX8_takesNumber_X8_takesIfIn : GoodIn wsX8_takesNumber wsX8_takesIfIn := goodIn_r _ [27, 13, 1, 4, 5, 6, 7, 8, 9, 10, 11, 12, 14, 15, 16, 17, 18, 19, 20, 21, 22, 23, 28, 29, 30, 31, 32, 33, 34, 35, 36] (by decide +kernel) (by decide +kernel)
set_option maxRecDepth 20000 in
theorem gX8_takesNumber_X8_takesIfIn : GoodIn wsX8_takesNumber (wsV RX8 84 RX8 yX8_takesIfIn wsX8_takesIfIn) := goodIn_app (goodIn_of _ (by decide +kernel)) ggX8_takesNumber_X8_takesIfIn
theorem dX8_takesNumber_0 : decode cX8_takesNumber 0 = .ok (.iload_n 1, 1) := by decide +kernel
theorem dX8_takesNumber_1 : decode cX8_takesNumber 1 = .ok (.ifCond .lt 8, 3) := by decide +kernel
theorem dX8_takesNumber_4 : decode cX8_takesNumber 4 = .ok (.iload_n 1, 1) := by decide +kernel
theorem dX8_takesNumber_5 : decode cX8_takesNumber 5 = .ok (.iconst 4, 1) := by decide +kernel
theorem dX8_takesNumber_6 : decode cX8_takesNumber 6 = .ok (.if_icmp .lt 5, 3) := by decide +kernel
theorem dX8_takesNumber_9 : decode cX8_takesNumber 9 = .ok (.iconst 0, 1) := by decide +kernel
theorem dX8_takesNumber_10 : decode cX8_takesNumber 10 = .ok (.ireturn, 1) := by decide +kernel
theorem dX8_takesNumber_11 : decode cX8_takesNumber 11 = .ok (.aload_n 0, 1) := by decide +kernel
theorem dX8_takesNumber_12 : decode cX8_takesNumber 12 = .ok (.invokevirtual 51, 3) := by decide +kernel
theorem dX8_takesNumber_15 : decode cX8_takesNumber 15 = .ok (.aload_n 0, 1) := by decide +kernel
theorem dX8_takesNumber_16 : decode cX8_takesNumber 16 = .ok (.getfield 78, 3) := by decide +kernel
theorem dX8_takesNumber_19 : decode cX8_takesNumber 19 = .ok (.istore_n 2, 1) := by decide +kernel
theorem dX8_takesNumber_20 : decode cX8_takesNumber 20 = .ok (.aload_n 0, 1) := by decide +kernel
theorem dX8_takesNumber_21 : decode cX8_takesNumber 21 = .ok (.iconst 0, 1) := by decide +kernel
theorem dX8_takesNumber_22 : decode cX8_takesNumber 22 = .ok (.getstatic 96, 3) := by decide +kernel
theorem dX8_takesNumber_25 : decode cX8_takesNumber 25 = .ok (.iload_n 1, 1) := by decide +kernel
theorem dX8_takesNumber_26 : decode cX8_takesNumber 26 = .ok (.iaload, 1) := by decide +kernel
theorem dX8_takesNumber_27 : decode cX8_takesNumber 27 = .ok (.invokevirtual 84, 3) := by decide +kernel
theorem dX8_takesNumber_30 : decode cX8_takesNumber 30 = .ok (.ifCond .ne 5, 3) := by decide +kernel
theorem dX8_takesNumber_33 : decode cX8_takesNumber 33 = .ok (.iconst 0, 1) := by decide +kernel
theorem dX8_takesNumber_34 : decode cX8_takesNumber 34 = .ok (.ireturn, 1) := by decide +kernel
theorem dX8_takesNumber_35 : decode cX8_takesNumber 35 = .ok (.aload_n 0, 1) := by decide +kernel
theorem dX8_takesNumber_36 : decode cX8_takesNumber 36 = .ok (.getfield 12, 3) := by decide +kernel
theorem dX8_takesNumber_39 : decode cX8_takesNumber 39 = .ok (.getfield 99, 3) := by decide +kernel
theorem dX8_takesNumber_42 : decode cX8_takesNumber 42 = .ok (.iload_n 1, 1) := by decide +kernel
theorem dX8_takesNumber_43 : decode cX8_takesNumber 43 = .ok (.iload_n 2, 1) := by decide +kernel
theorem dX8_takesNumber_44 : decode cX8_takesNumber 44 = .ok (.iastore, 1) := by decide +kernel
theorem dX8_takesNumber_45 : decode cX8_takesNumber 45 = .ok (.iconst 1, 1) := by decide +kernel
theorem dX8_takesNumber_46 : decode cX8_takesNumber 46 = .ok (.ireturn, 1) := by decide +kernel
set_option maxRecDepth 20000 in
theorem ggX8_takesGo_X8_nextToken : GoodIn wsX8_takesGo wsX8_nextToken := goodIn_r _ [11, 12, 13, 14, 15, 6, 16, 17, 10, 18, 19, 20, 21, 22, 23, 24, 25, 3, 38, 39, 40, 41, 42, 43, 44, 45, 46] (by decide +kernel) (by decide +kernel)
set_option maxRecDepth 20000 in
theorem gX8_takesGo_X8_nextToken : GoodIn wsX8_takesGo (wsV RX8 51 RX8 yX8_nextToken wsX8_nextToken) := goodIn_app (goodIn_of _ (by decide +kernel)) ggX8_takesGo_X8_nextToken
set_option maxRecDepth 20000 in
theorem ggX8_takesGo_X8_takesIfIn : GoodIn wsX8_takesGo wsX8_takesIfIn := goodIn_r _ [29, 6, 3, 7, 8, 9, 10, 11, 12, 13, 14, 15, 16, 17, 18, 19, 20, 21, 22, 23, 24, 25, 38, 39, 40, 41, 42, 43, 44, 45, 46] (by decide +kernel) (by decide +kernel)
set_option maxRecDepth 20000 in
theorem gX8_takesGo_X8_takesIfIn : GoodIn wsX8_takesGo (wsV RX8 84 RX8 yX8_takesIfIn wsX8_takesIfIn) := goodIn_app (goodIn_of _ (by decide +kernel)) ggX8_takesGo_X8_takesIfIn
set_option maxRecDepth 20000 in
theorem ggX8_takesGo_X1_addGo : GoodIn wsX8_takesGo wsX1_addGo := goodIn_r _ [34, 35, 36, 37, 47, 48, 49, 50, 51, 52, 53, 54, 55, 56] (by decide +kernel) (by decide +kernel)
set_option maxRecDepth 20000 in
theorem gX8_takesGo_X1_addGo : GoodIn wsX8_takesGo (wsV RX8 105 RX1 yX1_addGo wsX1_addGo) := goodIn_app (goodIn_of _ (by decide +kernel)) ggX8_takesGo_X1_addGo
theorem dX8_takesGo_0 : decode cX8_takesGo 0 = .ok (.aload_n 0, 1) := by decide +kernel
theorem dX8_takesGo_1 : decode cX8_takesGo 1 = .ok (.getfield 12, 3) := by decide +kernel
theorem dX8_takesGo_4 : decode cX8_takesGo 4 = .ok (.getfield 102, 3) := by decide +kernel
theorem dX8_takesGo_7 : decode cX8_takesGo 7 = .ok (.bipush 20, 2) := by decide +kernel
theorem dX8_takesGo_9 : decode cX8_takesGo 9 = .ok (.if_icmp .lt 5, 3) := by decide +kernel
theorem dX8_takesGo_12 : decode cX8_takesGo 12 = .ok (.iconst 0, 1) := by decide +kernel
theorem dX8_takesGo_13 : decode cX8_takesGo 13 = .ok (.ireturn, 1) := by decide +kernel
theorem dX8_takesGo_14 : decode cX8_takesGo 14 = .ok (.aload_n 0, 1) := by decide +kernel
theorem dX8_takesGo_15 : decode cX8_takesGo 15 = .ok (.invokevirtual 51, 3) := by decide +kernel
theorem dX8_takesGo_18 : decode cX8_takesGo 18 = .ok (.aload_n 0, 1) := by decide +kernel
theorem dX8_takesGo_19 : decode cX8_takesGo 19 = .ok (.getfield 78, 3) := by decide +kernel
theorem dX8_takesGo_22 : decode cX8_takesGo 22 = .ok (.istore_n 1, 1) := by decide +kernel
theorem dX8_takesGo_23 : decode cX8_takesGo 23 = .ok (.aload_n 0, 1) := by decide +kernel
theorem dX8_takesGo_24 : decode cX8_takesGo 24 = .ok (.aload_n 0, 1) := by decide +kernel
theorem dX8_takesGo_25 : decode cX8_takesGo 25 = .ok (.getfield 45, 3) := by decide +kernel
theorem dX8_takesGo_28 : decode cX8_takesGo 28 = .ok (.sipush 239, 3) := by decide +kernel
theorem dX8_takesGo_31 : decode cX8_takesGo 31 = .ok (.invokevirtual 84, 3) := by decide +kernel
theorem dX8_takesGo_34 : decode cX8_takesGo 34 = .ok (.ifCond .ne 5, 3) := by decide +kernel
theorem dX8_takesGo_37 : decode cX8_takesGo 37 = .ok (.iconst 0, 1) := by decide +kernel
theorem dX8_takesGo_38 : decode cX8_takesGo 38 = .ok (.ireturn, 1) := by decide +kernel
theorem dX8_takesGo_39 : decode cX8_takesGo 39 = .ok (.aload_n 0, 1) := by decide +kernel
theorem dX8_takesGo_40 : decode cX8_takesGo 40 = .ok (.getfield 78, 3) := by decide +kernel
theorem dX8_takesGo_43 : decode cX8_takesGo 43 = .ok (.istore_n 2, 1) := by decide +kernel
theorem dX8_takesGo_44 : decode cX8_takesGo 44 = .ok (.aload_n 0, 1) := by decide +kernel
theorem dX8_takesGo_45 : decode cX8_takesGo 45 = .ok (.iconst 0, 1) := by decide +kernel
theorem dX8_takesGo_46 : decode cX8_takesGo 46 = .ok (.aload_n 0, 1) := by decide +kernel
theorem dX8_takesGo_47 : decode cX8_takesGo 47 = .ok (.getfield 12, 3) := by decide +kernel
theorem dX8_takesGo_50 : decode cX8_takesGo 50 = .ok (.getfield 75, 3) := by decide +kernel
theorem dX8_takesGo_53 : decode cX8_takesGo 53 = .ok (.iconst 1, 1) := by decide +kernel
theorem dX8_takesGo_54 : decode cX8_takesGo 54 = .ok (.isub, 1) := by decide +kernel
theorem dX8_takesGo_55 : decode cX8_takesGo 55 = .ok (.invokevirtual 84, 3) := by decide +kernel
theorem dX8_takesGo_58 : decode cX8_takesGo 58 = .ok (.ifCond .ne 5, 3) := by decide +kernel
theorem dX8_takesGo_61 : decode cX8_takesGo 61 = .ok (.iconst 0, 1) := by decide +kernel
theorem dX8_takesGo_62 : decode cX8_takesGo 62 = .ok (.ireturn, 1) := by decide +kernel
theorem dX8_takesGo_63 : decode cX8_takesGo 63 = .ok (.iload_n 2, 1) := by decide +kernel
theorem dX8_takesGo_64 : decode cX8_takesGo 64 = .ok (.istore_n 3, 1) := by decide +kernel
theorem dX8_takesGo_65 : decode cX8_takesGo 65 = .ok (.aload_n 0, 1) := by decide +kernel
theorem dX8_takesGo_66 : decode cX8_takesGo 66 = .ok (.getfield 54, 3) := by decide +kernel
theorem dX8_takesGo_69 : decode cX8_takesGo 69 = .ok (.iconst 2, 1) := by decide +kernel
theorem dX8_takesGo_70 : decode cX8_takesGo 70 = .ok (.if_icmp .ne 32, 3) := by decide +kernel
theorem dX8_takesGo_73 : decode cX8_takesGo 73 = .ok (.aload_n 0, 1) := by decide +kernel
theorem dX8_takesGo_74 : decode cX8_takesGo 74 = .ok (.getfield 78, 3) := by decide +kernel
theorem dX8_takesGo_77 : decode cX8_takesGo 77 = .ok (.istore_n 3, 1) := by decide +kernel
theorem dX8_takesGo_78 : decode cX8_takesGo 78 = .ok (.iload_n 3, 1) := by decide +kernel
theorem dX8_takesGo_79 : decode cX8_takesGo 79 = .ok (.iload_n 2, 1) := by decide +kernel
theorem dX8_takesGo_80 : decode cX8_takesGo 80 = .ok (.if_icmp .eq 20, 3) := by decide +kernel
theorem dX8_takesGo_83 : decode cX8_takesGo 83 = .ok (.aload_n 0, 1) := by decide +kernel
theorem dX8_takesGo_84 : decode cX8_takesGo 84 = .ok (.iconst 0, 1) := by decide +kernel
theorem dX8_takesGo_85 : decode cX8_takesGo 85 = .ok (.aload_n 0, 1) := by decide +kernel
theorem dX8_takesGo_86 : decode cX8_takesGo 86 = .ok (.getfield 12, 3) := by decide +kernel
theorem dX8_takesGo_89 : decode cX8_takesGo 89 = .ok (.getfield 75, 3) := by decide +kernel
theorem dX8_takesGo_92 : decode cX8_takesGo 92 = .ok (.iconst 1, 1) := by decide +kernel
theorem dX8_takesGo_93 : decode cX8_takesGo 93 = .ok (.isub, 1) := by decide +kernel
theorem dX8_takesGo_94 : decode cX8_takesGo 94 = .ok (.invokevirtual 84, 3) := by decide +kernel
theorem dX8_takesGo_97 : decode cX8_takesGo 97 = .ok (.ifCond .ne 5, 3) := by decide +kernel
theorem dX8_takesGo_100 : decode cX8_takesGo 100 = .ok (.iconst 0, 1) := by decide +kernel
theorem dX8_takesGo_101 : decode cX8_takesGo 101 = .ok (.ireturn, 1) := by decide +kernel
theorem dX8_takesGo_102 : decode cX8_takesGo 102 = .ok (.aload_n 0, 1) := by decide +kernel
theorem dX8_takesGo_103 : decode cX8_takesGo 103 = .ok (.iload_n 1, 1) := by decide +kernel
theorem dX8_takesGo_104 : decode cX8_takesGo 104 = .ok (.putfield 45, 3) := by decide +kernel
theorem dX8_takesGo_107 : decode cX8_takesGo 107 = .ok (.aload_n 0, 1) := by decide +kernel
theorem dX8_takesGo_108 : decode cX8_takesGo 108 = .ok (.getfield 12, 3) := by decide +kernel
theorem dX8_takesGo_111 : decode cX8_takesGo 111 = .ok (.iload_n 1, 1) := by decide +kernel
theorem dX8_takesGo_112 : decode cX8_takesGo 112 = .ok (.iconst 1, 1) := by decide +kernel
theorem dX8_takesGo_113 : decode cX8_takesGo 113 = .ok (.iload_n 2, 1) := by decide +kernel
theorem dX8_takesGo_114 : decode cX8_takesGo 114 = .ok (.ishl, 1) := by decide +kernel
theorem dX8_takesGo_115 : decode cX8_takesGo 115 = .ok (.iconst 1, 1) := by decide +kernel
theorem dX8_takesGo_116 : decode cX8_takesGo 116 = .ok (.iload_n 3, 1) := by decide +kernel
theorem dX8_takesGo_117 : decode cX8_takesGo 117 = .ok (.ishl, 1) := by decide +kernel
theorem dX8_takesGo_118 : decode cX8_takesGo 118 = .ok (.ior, 1) := by decide +kernel
theorem dX8_takesGo_119 : decode cX8_takesGo 119 = .ok (.invokevirtual 105, 3) := by decide +kernel
theorem dX8_takesGo_122 : decode cX8_takesGo 122 = .ok (.iconst 1, 1) := by decide +kernel
theorem dX8_takesGo_123 : decode cX8_takesGo 123 = .ok (.ireturn, 1) := by decide +kernel
set_option maxRecDepth 20000 in
theorem ggX8_takesIfIn_X8_nextToken : GoodIn wsX8_takesIfIn wsX8_nextToken := goodIn_r _ [7, 8, 9, 10, 11, 1, 12, 13, 6, 14, 15, 16, 17, 18, 19, 20, 21, 2, 22, 23, 24, 25, 26, 27, 28, 29, 30] (by decide +kernel) (by decide +kernel)
set_option maxRecDepth 20000 in
theorem gX8_takesIfIn_X8_nextToken : GoodIn wsX8_takesIfIn (wsV RX8 51 RX8 yX8_nextToken wsX8_nextToken) := goodIn_app (goodIn_of _ (by decide +kernel)) ggX8_takesIfIn_X8_nextToken
theorem dX8_takesIfIn_0 : decode cX8_takesIfIn 0 = .ok (.aload_n 0, 1) := by decide +kernel
theorem dX8_takesIfIn_1 : decode cX8_takesIfIn 1 = .ok (.getfield 54, 3) := by decide +kernel
theorem dX8_takesIfIn_4 : decode cX8_takesIfIn 4 = .ok (.iconst 2, 1) := by decide +kernel
theorem dX8_takesIfIn_5 : decode cX8_takesIfIn 5 = .ok (.if_icmp .ne 19, 3) := by decide +kernel
theorem dX8_takesIfIn_8 : decode cX8_takesIfIn 8 = .ok (.aload_n 0, 1) := by decide +kernel
theorem dX8_takesIfIn_9 : decode cX8_takesIfIn 9 = .ok (.getfield 78, 3) := by decide +kernel
theorem dX8_takesIfIn_12 : decode cX8_takesIfIn 12 = .ok (.iload_n 1, 1) := by decide +kernel
theorem dX8_takesIfIn_13 : decode cX8_takesIfIn 13 = .ok (.if_icmp .lt 11, 3) := by decide +kernel
theorem dX8_takesIfIn_16 : decode cX8_takesIfIn 16 = .ok (.aload_n 0, 1) := by decide +kernel
theorem dX8_takesIfIn_17 : decode cX8_takesIfIn 17 = .ok (.getfield 78, 3) := by decide +kernel
theorem dX8_takesIfIn_20 : decode cX8_takesIfIn 20 = .ok (.iload_n 2, 1) := by decide +kernel
theorem dX8_takesIfIn_21 : decode cX8_takesIfIn 21 = .ok (.if_icmp .le 5, 3) := by decide +kernel
theorem dX8_takesIfIn_24 : decode cX8_takesIfIn 24 = .ok (.iconst 0, 1) := by decide +kernel
theorem dX8_takesIfIn_25 : decode cX8_takesIfIn 25 = .ok (.ireturn, 1) := by decide +kernel
theorem dX8_takesIfIn_26 : decode cX8_takesIfIn 26 = .ok (.aload_n 0, 1) := by decide +kernel
theorem dX8_takesIfIn_27 : decode cX8_takesIfIn 27 = .ok (.invokevirtual 51, 3) := by decide +kernel
theorem dX8_takesIfIn_30 : decode cX8_takesIfIn 30 = .ok (.iconst 1, 1) := by decide +kernel
theorem dX8_takesIfIn_31 : decode cX8_takesIfIn 31 = .ok (.ireturn, 1) := by decide +kernel
set_option maxRecDepth 20000 in
theorem ggX8_nextToken_X8_isLetter : GoodIn wsX8_nextToken wsX8_isLetter := goodIn_r _ [9] (by decide +kernel) (by decide +kernel)
set_option maxRecDepth 20000 in
theorem gX8_nextToken_X8_isLetter : GoodIn wsX8_nextToken (va_wsS RX8 109 yX8_isLetter wsX8_isLetter) := goodIn_app (goodIn_of _ (by decide +kernel)) ggX8_nextToken_X8_isLetter
set_option maxRecDepth 20000 in
theorem ggX8_nextToken_X8_isFigure : GoodIn wsX8_nextToken wsX8_isFigure := goodIn_r _ [12] (by decide +kernel) (by decide +kernel)
set_option maxRecDepth 20000 in
theorem gX8_nextToken_X8_isFigure : GoodIn wsX8_nextToken (va_wsS RX8 112 yX8_isFigure wsX8_isFigure) := goodIn_app (goodIn_of _ (by decide +kernel)) ggX8_nextToken_X8_isFigure
set_option maxRecDepth 20000 in
theorem ggX8_nextToken_X8_passNumber : GoodIn wsX8_nextToken wsX8_passNumber := goodIn_r _ [16, 17, 1, 2, 3, 4, 5, 10, 11, 8, 12, 18, 19, 20, 21, 22, 23, 24, 25, 26] (by decide +kernel) (by decide +kernel)
set_option maxRecDepth 20000 in
theorem gX8_nextToken_X8_passNumber : GoodIn wsX8_nextToken (wsV RX8 115 RX8 yX8_passNumber wsX8_passNumber) := goodIn_app (goodIn_of _ (by decide +kernel)) ggX8_nextToken_X8_passNumber
theorem dX8_nextToken_0 : decode cX8_nextToken 0 = .ok (.aload_n 0, 1) := by decide +kernel
theorem dX8_nextToken_1 : decode cX8_nextToken 1 = .ok (.getfield 42, 3) := by decide +kernel
theorem dX8_nextToken_4 : decode cX8_nextToken 4 = .ok (.aload_n 0, 1) := by decide +kernel
theorem dX8_nextToken_5 : decode cX8_nextToken 5 = .ok (.getfield 39, 3) := by decide +kernel
theorem dX8_nextToken_8 : decode cX8_nextToken 8 = .ok (.if_icmp .ge 30, 3) := by decide +kernel
theorem dX8_nextToken_11 : decode cX8_nextToken 11 = .ok (.aload_n 0, 1) := by decide +kernel
theorem dX8_nextToken_12 : decode cX8_nextToken 12 = .ok (.getfield 28, 3) := by decide +kernel
theorem dX8_nextToken_15 : decode cX8_nextToken 15 = .ok (.aload_n 0, 1) := by decide +kernel
theorem dX8_nextToken_16 : decode cX8_nextToken 16 = .ok (.getfield 42, 3) := by decide +kernel
theorem dX8_nextToken_19 : decode cX8_nextToken 19 = .ok (.iaload, 1) := by decide +kernel
theorem dX8_nextToken_20 : decode cX8_nextToken 20 = .ok (.bipush 32, 2) := by decide +kernel
theorem dX8_nextToken_22 : decode cX8_nextToken 22 = .ok (.if_icmp .ne 16, 3) := by decide +kernel
theorem dX8_nextToken_25 : decode cX8_nextToken 25 = .ok (.aload_n 0, 1) := by decide +kernel
theorem dX8_nextToken_26 : decode cX8_nextToken 26 = .ok (.dup, 1) := by decide +kernel
theorem dX8_nextToken_27 : decode cX8_nextToken 27 = .ok (.getfield 42, 3) := by decide +kernel
theorem dX8_nextToken_30 : decode cX8_nextToken 30 = .ok (.iconst 1, 1) := by decide +kernel
theorem dX8_nextToken_31 : decode cX8_nextToken 31 = .ok (.iadd, 1) := by decide +kernel
theorem dX8_nextToken_32 : decode cX8_nextToken 32 = .ok (.putfield 42, 3) := by decide +kernel
theorem dX8_nextToken_35 : decode cX8_nextToken 35 = .ok (.goto (-35), 3) := by decide +kernel
theorem dX8_nextToken_38 : decode cX8_nextToken 38 = .ok (.aload_n 0, 1) := by decide +kernel
theorem dX8_nextToken_39 : decode cX8_nextToken 39 = .ok (.aload_n 0, 1) := by decide +kernel
theorem dX8_nextToken_40 : decode cX8_nextToken 40 = .ok (.getfield 42, 3) := by decide +kernel
theorem dX8_nextToken_43 : decode cX8_nextToken 43 = .ok (.putfield 72, 3) := by decide +kernel
theorem dX8_nextToken_46 : decode cX8_nextToken 46 = .ok (.aload_n 0, 1) := by decide +kernel
theorem dX8_nextToken_47 : decode cX8_nextToken 47 = .ok (.getfield 42, 3) := by decide +kernel
theorem dX8_nextToken_50 : decode cX8_nextToken 50 = .ok (.aload_n 0, 1) := by decide +kernel
theorem dX8_nextToken_51 : decode cX8_nextToken 51 = .ok (.getfield 39, 3) := by decide +kernel
theorem dX8_nextToken_54 : decode cX8_nextToken 54 = .ok (.if_icmp .lt 11, 3) := by decide +kernel
theorem dX8_nextToken_57 : decode cX8_nextToken 57 = .ok (.aload_n 0, 1) := by decide +kernel
theorem dX8_nextToken_58 : decode cX8_nextToken 58 = .ok (.iconst 0, 1) := by decide +kernel
theorem dX8_nextToken_59 : decode cX8_nextToken 59 = .ok (.putfield 54, 3) := by decide +kernel
theorem dX8_nextToken_62 : decode cX8_nextToken 62 = .ok (.goto 117, 3) := by decide +kernel
theorem dX8_nextToken_65 : decode cX8_nextToken 65 = .ok (.aload_n 0, 1) := by decide +kernel
theorem dX8_nextToken_66 : decode cX8_nextToken 66 = .ok (.getfield 28, 3) := by decide +kernel
theorem dX8_nextToken_69 : decode cX8_nextToken 69 = .ok (.aload_n 0, 1) := by decide +kernel
theorem dX8_nextToken_70 : decode cX8_nextToken 70 = .ok (.getfield 42, 3) := by decide +kernel
theorem dX8_nextToken_73 : decode cX8_nextToken 73 = .ok (.iaload, 1) := by decide +kernel
theorem dX8_nextToken_74 : decode cX8_nextToken 74 = .ok (.invokestatic 109, 3) := by decide +kernel
theorem dX8_nextToken_77 : decode cX8_nextToken 77 = .ok (.ifCond .eq 47, 3) := by decide +kernel
theorem dX8_nextToken_80 : decode cX8_nextToken 80 = .ok (.aload_n 0, 1) := by decide +kernel
theorem dX8_nextToken_81 : decode cX8_nextToken 81 = .ok (.iconst 1, 1) := by decide +kernel
theorem dX8_nextToken_82 : decode cX8_nextToken 82 = .ok (.putfield 54, 3) := by decide +kernel
theorem dX8_nextToken_85 : decode cX8_nextToken 85 = .ok (.aload_n 0, 1) := by decide +kernel
theorem dX8_nextToken_86 : decode cX8_nextToken 86 = .ok (.getfield 42, 3) := by decide +kernel
theorem dX8_nextToken_89 : decode cX8_nextToken 89 = .ok (.aload_n 0, 1) := by decide +kernel
theorem dX8_nextToken_90 : decode cX8_nextToken 90 = .ok (.getfield 39, 3) := by decide +kernel
theorem dX8_nextToken_93 : decode cX8_nextToken 93 = .ok (.if_icmp .ge 86, 3) := by decide +kernel
theorem dX8_nextToken_96 : decode cX8_nextToken 96 = .ok (.aload_n 0, 1) := by decide +kernel
theorem dX8_nextToken_97 : decode cX8_nextToken 97 = .ok (.getfield 28, 3) := by decide +kernel
theorem dX8_nextToken_100 : decode cX8_nextToken 100 = .ok (.aload_n 0, 1) := by decide +kernel
theorem dX8_nextToken_101 : decode cX8_nextToken 101 = .ok (.getfield 42, 3) := by decide +kernel
theorem dX8_nextToken_104 : decode cX8_nextToken 104 = .ok (.iaload, 1) := by decide +kernel
theorem dX8_nextToken_105 : decode cX8_nextToken 105 = .ok (.invokestatic 109, 3) := by decide +kernel
theorem dX8_nextToken_108 : decode cX8_nextToken 108 = .ok (.ifCond .eq 71, 3) := by decide +kernel
theorem dX8_nextToken_111 : decode cX8_nextToken 111 = .ok (.aload_n 0, 1) := by decide +kernel
theorem dX8_nextToken_112 : decode cX8_nextToken 112 = .ok (.dup, 1) := by decide +kernel
theorem dX8_nextToken_113 : decode cX8_nextToken 113 = .ok (.getfield 42, 3) := by decide +kernel
theorem dX8_nextToken_116 : decode cX8_nextToken 116 = .ok (.iconst 1, 1) := by decide +kernel
theorem dX8_nextToken_117 : decode cX8_nextToken 117 = .ok (.iadd, 1) := by decide +kernel
theorem dX8_nextToken_118 : decode cX8_nextToken 118 = .ok (.putfield 42, 3) := by decide +kernel
theorem dX8_nextToken_121 : decode cX8_nextToken 121 = .ok (.goto (-36), 3) := by decide +kernel
theorem dX8_nextToken_124 : decode cX8_nextToken 124 = .ok (.aload_n 0, 1) := by decide +kernel
theorem dX8_nextToken_125 : decode cX8_nextToken 125 = .ok (.getfield 28, 3) := by decide +kernel
theorem dX8_nextToken_128 : decode cX8_nextToken 128 = .ok (.aload_n 0, 1) := by decide +kernel
theorem dX8_nextToken_129 : decode cX8_nextToken 129 = .ok (.getfield 42, 3) := by decide +kernel
theorem dX8_nextToken_132 : decode cX8_nextToken 132 = .ok (.iaload, 1) := by decide +kernel
theorem dX8_nextToken_133 : decode cX8_nextToken 133 = .ok (.invokestatic 112, 3) := by decide +kernel
theorem dX8_nextToken_136 : decode cX8_nextToken 136 = .ok (.ifCond .eq 10, 3) := by decide +kernel
theorem dX8_nextToken_139 : decode cX8_nextToken 139 = .ok (.aload_n 0, 1) := by decide +kernel
theorem dX8_nextToken_140 : decode cX8_nextToken 140 = .ok (.invokevirtual 115, 3) := by decide +kernel
theorem dX8_nextToken_143 : decode cX8_nextToken 143 = .ok (.goto 36, 3) := by decide +kernel
theorem dX8_nextToken_146 : decode cX8_nextToken 146 = .ok (.aload_n 0, 1) := by decide +kernel
theorem dX8_nextToken_147 : decode cX8_nextToken 147 = .ok (.aload_n 0, 1) := by decide +kernel
theorem dX8_nextToken_148 : decode cX8_nextToken 148 = .ok (.getfield 28, 3) := by decide +kernel
theorem dX8_nextToken_151 : decode cX8_nextToken 151 = .ok (.aload_n 0, 1) := by decide +kernel
theorem dX8_nextToken_152 : decode cX8_nextToken 152 = .ok (.getfield 42, 3) := by decide +kernel
theorem dX8_nextToken_155 : decode cX8_nextToken 155 = .ok (.iaload, 1) := by decide +kernel
theorem dX8_nextToken_156 : decode cX8_nextToken 156 = .ok (.bipush 59, 2) := by decide +kernel
theorem dX8_nextToken_158 : decode cX8_nextToken 158 = .ok (.if_icmp .ne 7, 3) := by decide +kernel
theorem dX8_nextToken_161 : decode cX8_nextToken 161 = .ok (.iconst 3, 1) := by decide +kernel
theorem dX8_nextToken_162 : decode cX8_nextToken 162 = .ok (.goto 4, 3) := by decide +kernel
theorem dX8_nextToken_165 : decode cX8_nextToken 165 = .ok (.iconst 4, 1) := by decide +kernel
theorem dX8_nextToken_166 : decode cX8_nextToken 166 = .ok (.putfield 54, 3) := by decide +kernel
theorem dX8_nextToken_169 : decode cX8_nextToken 169 = .ok (.aload_n 0, 1) := by decide +kernel
theorem dX8_nextToken_170 : decode cX8_nextToken 170 = .ok (.dup, 1) := by decide +kernel
theorem dX8_nextToken_171 : decode cX8_nextToken 171 = .ok (.getfield 42, 3) := by decide +kernel
theorem dX8_nextToken_174 : decode cX8_nextToken 174 = .ok (.iconst 1, 1) := by decide +kernel
theorem dX8_nextToken_175 : decode cX8_nextToken 175 = .ok (.iadd, 1) := by decide +kernel
theorem dX8_nextToken_176 : decode cX8_nextToken 176 = .ok (.putfield 42, 3) := by decide +kernel
theorem dX8_nextToken_179 : decode cX8_nextToken 179 = .ok (.return_, 1) := by decide +kernel
set_option maxRecDepth 20000 in
theorem ggX8_passNumber_X8_isFigure : GoodIn wsX8_passNumber wsX8_isFigure := goodIn_r _ [10] (by decide +kernel) (by decide +kernel)
set_option maxRecDepth 20000 in
theorem gX8_passNumber_X8_isFigure : GoodIn wsX8_passNumber (va_wsS RX8 112 yX8_isFigure wsX8_isFigure) := goodIn_app (goodIn_of _ (by decide +kernel)) ggX8_passNumber_X8_isFigure
theorem dX8_passNumber_0 : decode cX8_passNumber 0 = .ok (.aload_n 0, 1) := by decide +kernel
theorem dX8_passNumber_1 : decode cX8_passNumber 1 = .ok (.iconst 0, 1) := by decide +kernel
theorem dX8_passNumber_2 : decode cX8_passNumber 2 = .ok (.putfield 78, 3) := by decide +kernel
theorem dX8_passNumber_5 : decode cX8_passNumber 5 = .ok (.aload_n 0, 1) := by decide +kernel
theorem dX8_passNumber_6 : decode cX8_passNumber 6 = .ok (.getfield 42, 3) := by decide +kernel
theorem dX8_passNumber_9 : decode cX8_passNumber 9 = .ok (.aload_n 0, 1) := by decide +kernel
theorem dX8_passNumber_10 : decode cX8_passNumber 10 = .ok (.getfield 39, 3) := by decide +kernel
theorem dX8_passNumber_13 : decode cX8_passNumber 13 = .ok (.if_icmp .ge 68, 3) := by decide +kernel
theorem dX8_passNumber_16 : decode cX8_passNumber 16 = .ok (.aload_n 0, 1) := by decide +kernel
theorem dX8_passNumber_17 : decode cX8_passNumber 17 = .ok (.getfield 28, 3) := by decide +kernel
theorem dX8_passNumber_20 : decode cX8_passNumber 20 = .ok (.aload_n 0, 1) := by decide +kernel
theorem dX8_passNumber_21 : decode cX8_passNumber 21 = .ok (.getfield 42, 3) := by decide +kernel
theorem dX8_passNumber_24 : decode cX8_passNumber 24 = .ok (.iaload, 1) := by decide +kernel
theorem dX8_passNumber_25 : decode cX8_passNumber 25 = .ok (.invokestatic 112, 3) := by decide +kernel
theorem dX8_passNumber_28 : decode cX8_passNumber 28 = .ok (.ifCond .eq 53, 3) := by decide +kernel
theorem dX8_passNumber_31 : decode cX8_passNumber 31 = .ok (.aload_n 0, 1) := by decide +kernel
theorem dX8_passNumber_32 : decode cX8_passNumber 32 = .ok (.getfield 42, 3) := by decide +kernel
theorem dX8_passNumber_35 : decode cX8_passNumber 35 = .ok (.aload_n 0, 1) := by decide +kernel
theorem dX8_passNumber_36 : decode cX8_passNumber 36 = .ok (.getfield 72, 3) := by decide +kernel
theorem dX8_passNumber_39 : decode cX8_passNumber 39 = .ok (.isub, 1) := by decide +kernel
theorem dX8_passNumber_40 : decode cX8_passNumber 40 = .ok (.iconst 3, 1) := by decide +kernel
theorem dX8_passNumber_41 : decode cX8_passNumber 41 = .ok (.if_icmp .ge 27, 3) := by decide +kernel
theorem dX8_passNumber_44 : decode cX8_passNumber 44 = .ok (.aload_n 0, 1) := by decide +kernel
theorem dX8_passNumber_45 : decode cX8_passNumber 45 = .ok (.bipush 10, 2) := by decide +kernel
theorem dX8_passNumber_47 : decode cX8_passNumber 47 = .ok (.aload_n 0, 1) := by decide +kernel
theorem dX8_passNumber_48 : decode cX8_passNumber 48 = .ok (.getfield 78, 3) := by decide +kernel
theorem dX8_passNumber_51 : decode cX8_passNumber 51 = .ok (.imul, 1) := by decide +kernel
theorem dX8_passNumber_52 : decode cX8_passNumber 52 = .ok (.aload_n 0, 1) := by decide +kernel
theorem dX8_passNumber_53 : decode cX8_passNumber 53 = .ok (.getfield 28, 3) := by decide +kernel
theorem dX8_passNumber_56 : decode cX8_passNumber 56 = .ok (.aload_n 0, 1) := by decide +kernel
theorem dX8_passNumber_57 : decode cX8_passNumber 57 = .ok (.getfield 42, 3) := by decide +kernel
theorem dX8_passNumber_60 : decode cX8_passNumber 60 = .ok (.iaload, 1) := by decide +kernel
theorem dX8_passNumber_61 : decode cX8_passNumber 61 = .ok (.iadd, 1) := by decide +kernel
theorem dX8_passNumber_62 : decode cX8_passNumber 62 = .ok (.bipush 48, 2) := by decide +kernel
theorem dX8_passNumber_64 : decode cX8_passNumber 64 = .ok (.isub, 1) := by decide +kernel
theorem dX8_passNumber_65 : decode cX8_passNumber 65 = .ok (.putfield 78, 3) := by decide +kernel
theorem dX8_passNumber_68 : decode cX8_passNumber 68 = .ok (.aload_n 0, 1) := by decide +kernel
theorem dX8_passNumber_69 : decode cX8_passNumber 69 = .ok (.dup, 1) := by decide +kernel
theorem dX8_passNumber_70 : decode cX8_passNumber 70 = .ok (.getfield 42, 3) := by decide +kernel
theorem dX8_passNumber_73 : decode cX8_passNumber 73 = .ok (.iconst 1, 1) := by decide +kernel
theorem dX8_passNumber_74 : decode cX8_passNumber 74 = .ok (.iadd, 1) := by decide +kernel
theorem dX8_passNumber_75 : decode cX8_passNumber 75 = .ok (.putfield 42, 3) := by decide +kernel
theorem dX8_passNumber_78 : decode cX8_passNumber 78 = .ok (.goto (-73), 3) := by decide +kernel
theorem dX8_passNumber_81 : decode cX8_passNumber 81 = .ok (.aload_n 0, 1) := by decide +kernel
theorem dX8_passNumber_82 : decode cX8_passNumber 82 = .ok (.aload_n 0, 1) := by decide +kernel
theorem dX8_passNumber_83 : decode cX8_passNumber 83 = .ok (.getfield 42, 3) := by decide +kernel
theorem dX8_passNumber_86 : decode cX8_passNumber 86 = .ok (.aload_n 0, 1) := by decide +kernel
theorem dX8_passNumber_87 : decode cX8_passNumber 87 = .ok (.getfield 72, 3) := by decide +kernel
theorem dX8_passNumber_90 : decode cX8_passNumber 90 = .ok (.isub, 1) := by decide +kernel
theorem dX8_passNumber_91 : decode cX8_passNumber 91 = .ok (.iconst 3, 1) := by decide +kernel
theorem dX8_passNumber_92 : decode cX8_passNumber 92 = .ok (.if_icmp .gt 7, 3) := by decide +kernel
theorem dX8_passNumber_95 : decode cX8_passNumber 95 = .ok (.iconst 2, 1) := by decide +kernel
theorem dX8_passNumber_96 : decode cX8_passNumber 96 = .ok (.goto 4, 3) := by decide +kernel
theorem dX8_passNumber_99 : decode cX8_passNumber 99 = .ok (.iconst 4, 1) := by decide +kernel
theorem dX8_passNumber_100 : decode cX8_passNumber 100 = .ok (.putfield 54, 3) := by decide +kernel
theorem dX8_passNumber_103 : decode cX8_passNumber 103 = .ok (.return_, 1) := by decide +kernel
set_option maxRecDepth 20000 in
theorem ggX8_wordAtToken_X8_wordOf : GoodIn wsX8_wordAtToken wsX8_wordOf := goodIn_r _ [5] (by decide +kernel) (by decide +kernel)
set_option maxRecDepth 20000 in
theorem gX8_wordAtToken_X8_wordOf : GoodIn wsX8_wordAtToken (va_wsS RX8 118 yX8_wordOf wsX8_wordOf) := goodIn_app (goodIn_of _ (by decide +kernel)) ggX8_wordAtToken_X8_wordOf
set_option maxRecDepth 20000 in
theorem ggX8_wordAtToken_X8_isAtToken : GoodIn wsX8_wordAtToken wsX8_isAtToken := goodIn_r _ [9, 10, 11, 12, 13, 14, 15, 16, 17, 18, 19, 20, 21, 22, 23, 24, 25, 26, 27, 28, 29, 30, 31, 32, 33, 34, 35, 36, 37, 38, 39, 40, 41, 42, 43, 44, 45, 46, 47, 48, 49, 50, 51, 52, 53, 54, 55, 56, 57, 58, 59, 60, 61, 62, 63, 64, 65, 66, 67, 68, 69, 70, 71] (by decide +kernel) (by decide +kernel)
set_option maxRecDepth 20000 in
theorem gX8_wordAtToken_X8_isAtToken : GoodIn wsX8_wordAtToken (wsV RX8 122 RX8 yX8_isAtToken wsX8_isAtToken) := goodIn_app (goodIn_of _ (by decide +kernel)) ggX8_wordAtToken_X8_isAtToken
theorem dX8_wordAtToken_0 : decode cX8_wordAtToken 0 = .ok (.aload_n 0, 1) := by decide +kernel
theorem dX8_wordAtToken_1 : decode cX8_wordAtToken 1 = .ok (.getfield 54, 3) := by decide +kernel
theorem dX8_wordAtToken_4 : decode cX8_wordAtToken 4 = .ok (.iconst 1, 1) := by decide +kernel
theorem dX8_wordAtToken_5 : decode cX8_wordAtToken 5 = .ok (.if_icmp .eq 5, 3) := by decide +kernel
theorem dX8_wordAtToken_8 : decode cX8_wordAtToken 8 = .ok (.iconst (-1), 1) := by decide +kernel
theorem dX8_wordAtToken_9 : decode cX8_wordAtToken 9 = .ok (.ireturn, 1) := by decide +kernel
theorem dX8_wordAtToken_10 : decode cX8_wordAtToken 10 = .ok (.iconst 0, 1) := by decide +kernel
theorem dX8_wordAtToken_11 : decode cX8_wordAtToken 11 = .ok (.istore_n 1, 1) := by decide +kernel
theorem dX8_wordAtToken_12 : decode cX8_wordAtToken 12 = .ok (.iload_n 1, 1) := by decide +kernel
theorem dX8_wordAtToken_13 : decode cX8_wordAtToken 13 = .ok (.bipush 6, 2) := by decide +kernel
theorem dX8_wordAtToken_15 : decode cX8_wordAtToken 15 = .ok (.if_icmp .ge 22, 3) := by decide +kernel
theorem dX8_wordAtToken_18 : decode cX8_wordAtToken 18 = .ok (.aload_n 0, 1) := by decide +kernel
theorem dX8_wordAtToken_19 : decode cX8_wordAtToken 19 = .ok (.iload_n 1, 1) := by decide +kernel
theorem dX8_wordAtToken_20 : decode cX8_wordAtToken 20 = .ok (.invokestatic 118, 3) := by decide +kernel
theorem dX8_wordAtToken_23 : decode cX8_wordAtToken 23 = .ok (.invokevirtual 122, 3) := by decide +kernel
theorem dX8_wordAtToken_26 : decode cX8_wordAtToken 26 = .ok (.ifCond .eq 5, 3) := by decide +kernel
theorem dX8_wordAtToken_29 : decode cX8_wordAtToken 29 = .ok (.iload_n 1, 1) := by decide +kernel
theorem dX8_wordAtToken_30 : decode cX8_wordAtToken 30 = .ok (.ireturn, 1) := by decide +kernel
theorem dX8_wordAtToken_31 : decode cX8_wordAtToken 31 = .ok (.iinc 1 1, 3) := by decide +kernel
theorem dX8_wordAtToken_34 : decode cX8_wordAtToken 34 = .ok (.goto (-22), 3) := by decide +kernel
theorem dX8_wordAtToken_37 : decode cX8_wordAtToken 37 = .ok (.iconst (-1), 1) := by decide +kernel
theorem dX8_wordAtToken_38 : decode cX8_wordAtToken 38 = .ok (.ireturn, 1) := by decide +kernel
set_option maxRecDepth 20000 in
theorem ggX8_isAtToken_J0_length_8abf5 : GoodIn wsX8_isAtToken wsJ0_length_8abf5 := goodIn_r _ [9, 10, 11, 12, 13, 8, 14, 15, 16] (by decide +kernel) (by decide +kernel)
set_option maxRecDepth 20000 in
theorem gX8_isAtToken_J0_length_8abf5 : GoodIn wsX8_isAtToken (wsV RX8 126 RJ0 yJ0_length_8abf5 wsJ0_length_8abf5) := goodIn_app (goodIn_of _ (by decide +kernel)) ggX8_isAtToken_J0_length_8abf5
set_option maxRecDepth 20000 in
theorem ggX8_isAtToken_J0_charAt_5068e : GoodIn wsX8_isAtToken wsJ0_charAt_5068e := goodIn_r _ [20, 10, 21, 22, 23, 8, 24, 15, 16, 25, 26, 27, 28, 29, 30, 31, 32, 33, 34, 35, 36, 37, 38, 39, 40, 41, 42, 43, 44, 45, 46, 47, 48, 49, 50, 51, 52, 53] (by decide +kernel) (by decide +kernel)
set_option maxRecDepth 20000 in
theorem gX8_isAtToken_J0_charAt_5068e : GoodIn wsX8_isAtToken (wsV RX8 130 RJ0 yJ0_charAt_5068e wsJ0_charAt_5068e) := goodIn_app (goodIn_of _ (by decide +kernel)) ggX8_isAtToken_J0_charAt_5068e
theorem dX8_isAtToken_0 : decode cX8_isAtToken 0 = .ok (.aload_n 0, 1) := by decide +kernel
theorem dX8_isAtToken_1 : decode cX8_isAtToken 1 = .ok (.getfield 42, 3) := by decide +kernel
theorem dX8_isAtToken_4 : decode cX8_isAtToken 4 = .ok (.aload_n 0, 1) := by decide +kernel
theorem dX8_isAtToken_5 : decode cX8_isAtToken 5 = .ok (.getfield 72, 3) := by decide +kernel
theorem dX8_isAtToken_8 : decode cX8_isAtToken 8 = .ok (.isub, 1) := by decide +kernel
theorem dX8_isAtToken_9 : decode cX8_isAtToken 9 = .ok (.aload_n 1, 1) := by decide +kernel
theorem dX8_isAtToken_10 : decode cX8_isAtToken 10 = .ok (.invokevirtual 126, 3) := by decide +kernel
theorem dX8_isAtToken_13 : decode cX8_isAtToken 13 = .ok (.if_icmp .eq 5, 3) := by decide +kernel
theorem dX8_isAtToken_16 : decode cX8_isAtToken 16 = .ok (.iconst 0, 1) := by decide +kernel
theorem dX8_isAtToken_17 : decode cX8_isAtToken 17 = .ok (.ireturn, 1) := by decide +kernel
theorem dX8_isAtToken_18 : decode cX8_isAtToken 18 = .ok (.iconst 0, 1) := by decide +kernel
theorem dX8_isAtToken_19 : decode cX8_isAtToken 19 = .ok (.istore_n 2, 1) := by decide +kernel
theorem dX8_isAtToken_20 : decode cX8_isAtToken 20 = .ok (.iload_n 2, 1) := by decide +kernel
theorem dX8_isAtToken_21 : decode cX8_isAtToken 21 = .ok (.aload_n 1, 1) := by decide +kernel
theorem dX8_isAtToken_22 : decode cX8_isAtToken 22 = .ok (.invokevirtual 126, 3) := by decide +kernel
theorem dX8_isAtToken_25 : decode cX8_isAtToken 25 = .ok (.if_icmp .ge 43, 3) := by decide +kernel
theorem dX8_isAtToken_28 : decode cX8_isAtToken 28 = .ok (.aload_n 0, 1) := by decide +kernel
theorem dX8_isAtToken_29 : decode cX8_isAtToken 29 = .ok (.getfield 72, 3) := by decide +kernel
theorem dX8_isAtToken_32 : decode cX8_isAtToken 32 = .ok (.iload_n 2, 1) := by decide +kernel
theorem dX8_isAtToken_33 : decode cX8_isAtToken 33 = .ok (.iadd, 1) := by decide +kernel
theorem dX8_isAtToken_34 : decode cX8_isAtToken 34 = .ok (.aload_n 0, 1) := by decide +kernel
theorem dX8_isAtToken_35 : decode cX8_isAtToken 35 = .ok (.getfield 39, 3) := by decide +kernel
theorem dX8_isAtToken_38 : decode cX8_isAtToken 38 = .ok (.if_icmp .ge 30, 3) := by decide +kernel
theorem dX8_isAtToken_41 : decode cX8_isAtToken 41 = .ok (.aload_n 0, 1) := by decide +kernel
theorem dX8_isAtToken_42 : decode cX8_isAtToken 42 = .ok (.getfield 28, 3) := by decide +kernel
theorem dX8_isAtToken_45 : decode cX8_isAtToken 45 = .ok (.aload_n 0, 1) := by decide +kernel
theorem dX8_isAtToken_46 : decode cX8_isAtToken 46 = .ok (.getfield 72, 3) := by decide +kernel
theorem dX8_isAtToken_49 : decode cX8_isAtToken 49 = .ok (.iload_n 2, 1) := by decide +kernel
theorem dX8_isAtToken_50 : decode cX8_isAtToken 50 = .ok (.iadd, 1) := by decide +kernel
theorem dX8_isAtToken_51 : decode cX8_isAtToken 51 = .ok (.iaload, 1) := by decide +kernel
theorem dX8_isAtToken_52 : decode cX8_isAtToken 52 = .ok (.aload_n 1, 1) := by decide +kernel
theorem dX8_isAtToken_53 : decode cX8_isAtToken 53 = .ok (.iload_n 2, 1) := by decide +kernel
theorem dX8_isAtToken_54 : decode cX8_isAtToken 54 = .ok (.invokevirtual 130, 3) := by decide +kernel
theorem dX8_isAtToken_57 : decode cX8_isAtToken 57 = .ok (.if_icmp .eq 5, 3) := by decide +kernel
theorem dX8_isAtToken_60 : decode cX8_isAtToken 60 = .ok (.iconst 0, 1) := by decide +kernel
theorem dX8_isAtToken_61 : decode cX8_isAtToken 61 = .ok (.ireturn, 1) := by decide +kernel
theorem dX8_isAtToken_62 : decode cX8_isAtToken 62 = .ok (.iinc 2 1, 3) := by decide +kernel
theorem dX8_isAtToken_65 : decode cX8_isAtToken 65 = .ok (.goto (-45), 3) := by decide +kernel
theorem dX8_isAtToken_68 : decode cX8_isAtToken 68 = .ok (.iconst 1, 1) := by decide +kernel
theorem dX8_isAtToken_69 : decode cX8_isAtToken 69 = .ok (.ireturn, 1) := by decide +kernel
theorem dX8_wordOf_0 : decode cX8_wordOf 0 = .ok (.iload_n 0, 1) := by decide +kernel
theorem dX8_wordOf_1 : decode cX8_wordOf 1 = .ok (.tableswitch 50 0 4 #[35, 38, 41, 44, 47], 35) := by decide +kernel
theorem dX8_wordOf_36 : decode cX8_wordOf 36 = .ok (.ldc 134, 2) := by decide +kernel
theorem dX8_wordOf_38 : decode cX8_wordOf 38 = .ok (.areturn, 1) := by decide +kernel
theorem dX8_wordOf_39 : decode cX8_wordOf 39 = .ok (.ldc 136, 2) := by decide +kernel
theorem dX8_wordOf_41 : decode cX8_wordOf 41 = .ok (.areturn, 1) := by decide +kernel
theorem dX8_wordOf_42 : decode cX8_wordOf 42 = .ok (.ldc 138, 2) := by decide +kernel
theorem dX8_wordOf_44 : decode cX8_wordOf 44 = .ok (.areturn, 1) := by decide +kernel
theorem dX8_wordOf_45 : decode cX8_wordOf 45 = .ok (.ldc 140, 2) := by decide +kernel
theorem dX8_wordOf_47 : decode cX8_wordOf 47 = .ok (.areturn, 1) := by decide +kernel
theorem dX8_wordOf_48 : decode cX8_wordOf 48 = .ok (.ldc 142, 2) := by decide +kernel
theorem dX8_wordOf_50 : decode cX8_wordOf 50 = .ok (.areturn, 1) := by decide +kernel
theorem dX8_wordOf_51 : decode cX8_wordOf 51 = .ok (.ldc 144, 2) := by decide +kernel
theorem dX8_wordOf_53 : decode cX8_wordOf 53 = .ok (.areturn, 1) := by decide +kernel
theorem dX8_isLetter_0 : decode cX8_isLetter 0 = .ok (.iload_n 0, 1) := by decide +kernel
theorem dX8_isLetter_1 : decode cX8_isLetter 1 = .ok (.bipush 97, 2) := by decide +kernel
theorem dX8_isLetter_3 : decode cX8_isLetter 3 = .ok (.if_icmp .lt 13, 3) := by decide +kernel
theorem dX8_isLetter_6 : decode cX8_isLetter 6 = .ok (.iload_n 0, 1) := by decide +kernel
theorem dX8_isLetter_7 : decode cX8_isLetter 7 = .ok (.bipush 122, 2) := by decide +kernel
theorem dX8_isLetter_9 : decode cX8_isLetter 9 = .ok (.if_icmp .gt 7, 3) := by decide +kernel
theorem dX8_isLetter_12 : decode cX8_isLetter 12 = .ok (.iconst 1, 1) := by decide +kernel
theorem dX8_isLetter_13 : decode cX8_isLetter 13 = .ok (.goto 4, 3) := by decide +kernel
theorem dX8_isLetter_16 : decode cX8_isLetter 16 = .ok (.iconst 0, 1) := by decide +kernel
theorem dX8_isLetter_17 : decode cX8_isLetter 17 = .ok (.ireturn, 1) := by decide +kernel
theorem dX8_isFigure_0 : decode cX8_isFigure 0 = .ok (.iload_n 0, 1) := by decide +kernel
theorem dX8_isFigure_1 : decode cX8_isFigure 1 = .ok (.bipush 48, 2) := by decide +kernel
theorem dX8_isFigure_3 : decode cX8_isFigure 3 = .ok (.if_icmp .lt 13, 3) := by decide +kernel
theorem dX8_isFigure_6 : decode cX8_isFigure 6 = .ok (.iload_n 0, 1) := by decide +kernel
theorem dX8_isFigure_7 : decode cX8_isFigure 7 = .ok (.bipush 57, 2) := by decide +kernel
theorem dX8_isFigure_9 : decode cX8_isFigure 9 = .ok (.if_icmp .gt 7, 3) := by decide +kernel
theorem dX8_isFigure_12 : decode cX8_isFigure 12 = .ok (.iconst 1, 1) := by decide +kernel
theorem dX8_isFigure_13 : decode cX8_isFigure 13 = .ok (.goto 4, 3) := by decide +kernel
theorem dX8_isFigure_16 : decode cX8_isFigure 16 = .ok (.iconst 0, 1) := by decide +kernel
theorem dX8_isFigure_17 : decode cX8_isFigure 17 = .ok (.ireturn, 1) := by decide +kernel
set_option maxRecDepth 20000 in
theorem ggJ0_length_8abf5_J0_coder_7d493 : GoodIn wsJ0_length_8abf5 wsJ0_coder_7d493 := goodIn_r _ [6, 7, 8] (by decide +kernel) (by decide +kernel)
set_option maxRecDepth 20000 in
theorem gJ0_length_8abf5_J0_coder_7d493 : GoodIn wsJ0_length_8abf5 (wsV RJ0 335 RJ0 yJ0_coder_7d493 wsJ0_coder_7d493) := goodIn_app (goodIn_of _ (by decide +kernel)) ggJ0_length_8abf5_J0_coder_7d493
theorem dJ0_length_8abf5_0 : decode cJ0_length_8abf5 0 = .ok (.aload_n 0, 1) := by decide +kernel
theorem dJ0_length_8abf5_1 : decode cJ0_length_8abf5 1 = .ok (.getfield 9, 3) := by decide +kernel
theorem dJ0_length_8abf5_4 : decode cJ0_length_8abf5 4 = .ok (.arraylength, 1) := by decide +kernel
theorem dJ0_length_8abf5_5 : decode cJ0_length_8abf5 5 = .ok (.aload_n 0, 1) := by decide +kernel
theorem dJ0_length_8abf5_6 : decode cJ0_length_8abf5 6 = .ok (.invokevirtual 335, 3) := by decide +kernel
theorem dJ0_length_8abf5_9 : decode cJ0_length_8abf5 9 = .ok (.ishr, 1) := by decide +kernel
theorem dJ0_length_8abf5_10 : decode cJ0_length_8abf5 10 = .ok (.ireturn, 1) := by decide +kernel
set_option maxRecDepth 20000 in
theorem ggJ0_charAt_5068e_J0_isLatin1_aae02 : GoodIn wsJ0_charAt_5068e wsJ0_isLatin1_aae02 := goodIn_r _ [6, 7, 8] (by decide +kernel) (by decide +kernel)
set_option maxRecDepth 20000 in
theorem gJ0_charAt_5068e_J0_isLatin1_aae02 : GoodIn wsJ0_charAt_5068e (wsV RJ0 492 RJ0 yJ0_isLatin1_aae02 wsJ0_isLatin1_aae02) := goodIn_app (goodIn_of _ (by decide +kernel)) ggJ0_charAt_5068e_J0_isLatin1_aae02
set_option maxRecDepth 20000 in
theorem ggJ0_charAt_5068e_J1_charAt_3b067 : GoodIn wsJ0_charAt_5068e wsJ1_charAt_3b067 := goodIn_r _ [12, 13, 14, 5, 15, 16, 17, 18, 19, 20] (by decide +kernel) (by decide +kernel)
set_option maxRecDepth 20000 in
theorem gJ0_charAt_5068e_J1_charAt_3b067 : GoodIn wsJ0_charAt_5068e (va_wsS RJ0 495 yJ1_charAt_3b067 wsJ1_charAt_3b067) := goodIn_app (goodIn_of _ (by decide +kernel)) ggJ0_charAt_5068e_J1_charAt_3b067
set_option maxRecDepth 20000 in
theorem ggJ0_charAt_5068e_J2_charAt_3b067 : GoodIn wsJ0_charAt_5068e wsJ2_charAt_3b067 := goodIn_r _ [24, 25, 26, 23, 27, 28, 29, 30, 31, 14, 5, 15, 16, 17, 18, 19, 20, 32, 33, 34, 35, 36, 37] (by decide +kernel) (by decide +kernel)
set_option maxRecDepth 20000 in
theorem gJ0_charAt_5068e_J2_charAt_3b067 : GoodIn wsJ0_charAt_5068e (va_wsS RJ0 498 yJ2_charAt_3b067 wsJ2_charAt_3b067) := goodIn_app (goodIn_of _ (by decide +kernel)) ggJ0_charAt_5068e_J2_charAt_3b067
theorem dJ0_charAt_5068e_0 : decode cJ0_charAt_5068e 0 = .ok (.aload_n 0, 1) := by decide +kernel
theorem dJ0_charAt_5068e_1 : decode cJ0_charAt_5068e 1 = .ok (.invokevirtual 492, 3) := by decide +kernel
theorem dJ0_charAt_5068e_4 : decode cJ0_charAt_5068e 4 = .ok (.ifCond .eq 12, 3) := by decide +kernel
theorem dJ0_charAt_5068e_7 : decode cJ0_charAt_5068e 7 = .ok (.aload_n 0, 1) := by decide +kernel
theorem dJ0_charAt_5068e_8 : decode cJ0_charAt_5068e 8 = .ok (.getfield 9, 3) := by decide +kernel
theorem dJ0_charAt_5068e_11 : decode cJ0_charAt_5068e 11 = .ok (.iload_n 1, 1) := by decide +kernel
theorem dJ0_charAt_5068e_12 : decode cJ0_charAt_5068e 12 = .ok (.invokestatic 495, 3) := by decide +kernel
theorem dJ0_charAt_5068e_15 : decode cJ0_charAt_5068e 15 = .ok (.ireturn, 1) := by decide +kernel
theorem dJ0_charAt_5068e_16 : decode cJ0_charAt_5068e 16 = .ok (.aload_n 0, 1) := by decide +kernel
theorem dJ0_charAt_5068e_17 : decode cJ0_charAt_5068e 17 = .ok (.getfield 9, 3) := by decide +kernel
theorem dJ0_charAt_5068e_20 : decode cJ0_charAt_5068e 20 = .ok (.iload_n 1, 1) := by decide +kernel
theorem dJ0_charAt_5068e_21 : decode cJ0_charAt_5068e 21 = .ok (.invokestatic 498, 3) := by decide +kernel
theorem dJ0_charAt_5068e_24 : decode cJ0_charAt_5068e 24 = .ok (.ireturn, 1) := by decide +kernel
theorem dJ0_coder_7d493_0 : decode cJ0_coder_7d493 0 = .ok (.getstatic 38, 3) := by decide +kernel
theorem dJ0_coder_7d493_3 : decode cJ0_coder_7d493 3 = .ok (.ifCond .eq 10, 3) := by decide +kernel
theorem dJ0_coder_7d493_6 : decode cJ0_coder_7d493 6 = .ok (.aload_n 0, 1) := by decide +kernel
theorem dJ0_coder_7d493_7 : decode cJ0_coder_7d493 7 = .ok (.getfield 15, 3) := by decide +kernel
theorem dJ0_coder_7d493_10 : decode cJ0_coder_7d493 10 = .ok (.goto 4, 3) := by decide +kernel
theorem dJ0_coder_7d493_13 : decode cJ0_coder_7d493 13 = .ok (.iconst 1, 1) := by decide +kernel
theorem dJ0_coder_7d493_14 : decode cJ0_coder_7d493 14 = .ok (.ireturn, 1) := by decide +kernel
theorem dJ0_isLatin1_aae02_0 : decode cJ0_isLatin1_aae02 0 = .ok (.getstatic 38, 3) := by decide +kernel
theorem dJ0_isLatin1_aae02_3 : decode cJ0_isLatin1_aae02 3 = .ok (.ifCond .eq 14, 3) := by decide +kernel
theorem dJ0_isLatin1_aae02_6 : decode cJ0_isLatin1_aae02 6 = .ok (.aload_n 0, 1) := by decide +kernel
theorem dJ0_isLatin1_aae02_7 : decode cJ0_isLatin1_aae02 7 = .ok (.getfield 15, 3) := by decide +kernel
theorem dJ0_isLatin1_aae02_10 : decode cJ0_isLatin1_aae02 10 = .ok (.ifCond .ne 7, 3) := by decide +kernel
theorem dJ0_isLatin1_aae02_13 : decode cJ0_isLatin1_aae02 13 = .ok (.iconst 1, 1) := by decide +kernel
theorem dJ0_isLatin1_aae02_14 : decode cJ0_isLatin1_aae02 14 = .ok (.goto 4, 3) := by decide +kernel
theorem dJ0_isLatin1_aae02_17 : decode cJ0_isLatin1_aae02 17 = .ok (.iconst 0, 1) := by decide +kernel
theorem dJ0_isLatin1_aae02_18 : decode cJ0_isLatin1_aae02 18 = .ok (.ireturn, 1) := by decide +kernel
set_option maxRecDepth 20000 in
theorem ggJ0_checkIndex_df160_J3_checkIndex_8e157 : GoodIn wsJ0_checkIndex_df160 wsJ3_checkIndex_8e157 := goodIn_r _ [5] (by decide +kernel) (by decide +kernel)
set_option maxRecDepth 20000 in
theorem gJ0_checkIndex_df160_J3_checkIndex_8e157 : GoodIn wsJ0_checkIndex_df160 (va_wsS RJ0 1059 yJ3_checkIndex_8e157 wsJ3_checkIndex_8e157) := goodIn_app (goodIn_of _ (by decide +kernel)) ggJ0_checkIndex_df160_J3_checkIndex_8e157
theorem dJ0_checkIndex_df160_0 : decode cJ0_checkIndex_df160 0 = .ok (.iload_n 0, 1) := by decide +kernel
theorem dJ0_checkIndex_df160_1 : decode cJ0_checkIndex_df160 1 = .ok (.iload_n 1, 1) := by decide +kernel
theorem dJ0_checkIndex_df160_2 : decode cJ0_checkIndex_df160 2 = .ok (.getstatic 1053, 3) := by decide +kernel
theorem dJ0_checkIndex_df160_5 : decode cJ0_checkIndex_df160 5 = .ok (.invokestatic 1059, 3) := by decide +kernel
theorem dJ0_checkIndex_df160_8 : decode cJ0_checkIndex_df160 8 = .ok (.pop, 1) := by decide +kernel
theorem dJ0_checkIndex_df160_9 : decode cJ0_checkIndex_df160 9 = .ok (.return_, 1) := by decide +kernel
set_option maxRecDepth 20000 in
theorem ggJ1_charAt_3b067_J0_checkIndex_df160 : GoodIn wsJ1_charAt_3b067 wsJ0_checkIndex_df160 := goodIn_r _ [4, 5, 6, 7, 8, 9] (by decide +kernel) (by decide +kernel)
set_option maxRecDepth 20000 in
theorem gJ1_charAt_3b067_J0_checkIndex_df160 : GoodIn wsJ1_charAt_3b067 (va_wsS RJ1 9 yJ0_checkIndex_df160 wsJ0_checkIndex_df160) := goodIn_app (goodIn_of _ (by decide +kernel)) ggJ1_charAt_3b067_J0_checkIndex_df160
theorem dJ1_charAt_3b067_0 : decode cJ1_charAt_3b067 0 = .ok (.iload_n 1, 1) := by decide +kernel
theorem dJ1_charAt_3b067_1 : decode cJ1_charAt_3b067 1 = .ok (.aload_n 0, 1) := by decide +kernel
theorem dJ1_charAt_3b067_2 : decode cJ1_charAt_3b067 2 = .ok (.arraylength, 1) := by decide +kernel
theorem dJ1_charAt_3b067_3 : decode cJ1_charAt_3b067 3 = .ok (.invokestatic 9, 3) := by decide +kernel
theorem dJ1_charAt_3b067_6 : decode cJ1_charAt_3b067 6 = .ok (.aload_n 0, 1) := by decide +kernel
theorem dJ1_charAt_3b067_7 : decode cJ1_charAt_3b067 7 = .ok (.iload_n 1, 1) := by decide +kernel
theorem dJ1_charAt_3b067_8 : decode cJ1_charAt_3b067 8 = .ok (.baload, 1) := by decide +kernel
theorem dJ1_charAt_3b067_9 : decode cJ1_charAt_3b067 9 = .ok (.sipush 255, 3) := by decide +kernel
theorem dJ1_charAt_3b067_12 : decode cJ1_charAt_3b067 12 = .ok (.iand, 1) := by decide +kernel
theorem dJ1_charAt_3b067_13 : decode cJ1_charAt_3b067 13 = .ok (.i2c, 1) := by decide +kernel
theorem dJ1_charAt_3b067_14 : decode cJ1_charAt_3b067 14 = .ok (.ireturn, 1) := by decide +kernel
set_option maxRecDepth 20000 in
theorem ggJ2_getChar_3b067_J2_length_9d52b : GoodIn wsJ2_getChar_3b067 wsJ2_length_9d52b := goodIn_r _ [7] (by decide +kernel) (by decide +kernel)
set_option maxRecDepth 20000 in
theorem gJ2_getChar_3b067_J2_length_9d52b : GoodIn wsJ2_getChar_3b067 (va_wsS RJ2 48 yJ2_length_9d52b wsJ2_length_9d52b) := goodIn_app (goodIn_of _ (by decide +kernel)) ggJ2_getChar_3b067_J2_length_9d52b
theorem dJ2_getChar_3b067_0 : decode cJ2_getChar_3b067 0 = .ok (.getstatic 44, 3) := by decide +kernel
theorem dJ2_getChar_3b067_3 : decode cJ2_getChar_3b067 3 = .ok (.ifCond .ne 25, 3) := by decide +kernel
theorem dJ2_getChar_3b067_6 : decode cJ2_getChar_3b067 6 = .ok (.iload_n 1, 1) := by decide +kernel
theorem dJ2_getChar_3b067_7 : decode cJ2_getChar_3b067 7 = .ok (.ifCond .lt 11, 3) := by decide +kernel
theorem dJ2_getChar_3b067_10 : decode cJ2_getChar_3b067 10 = .ok (.iload_n 1, 1) := by decide +kernel
theorem dJ2_getChar_3b067_11 : decode cJ2_getChar_3b067 11 = .ok (.aload_n 0, 1) := by decide +kernel
theorem dJ2_getChar_3b067_12 : decode cJ2_getChar_3b067 12 = .ok (.invokestatic 48, 3) := by decide +kernel
theorem dJ2_getChar_3b067_15 : decode cJ2_getChar_3b067 15 = .ok (.if_icmp .lt 13, 3) := by decide +kernel
theorem dJ2_getChar_3b067_18 : decode cJ2_getChar_3b067 18 = .ok (.new 52, 3) := by decide +kernel
theorem dJ2_getChar_3b067_21 : decode cJ2_getChar_3b067 21 = .ok (.dup, 1) := by decide +kernel
theorem dJ2_getChar_3b067_22 : decode cJ2_getChar_3b067 22 = .ok (.ldc 54, 2) := by decide +kernel
theorem dJ2_getChar_3b067_24 : decode cJ2_getChar_3b067 24 = .ok (.invokespecial 56, 3) := by decide +kernel
theorem dJ2_getChar_3b067_27 : decode cJ2_getChar_3b067 27 = .ok (.athrow, 1) := by decide +kernel
theorem dJ2_getChar_3b067_28 : decode cJ2_getChar_3b067 28 = .ok (.iload_n 1, 1) := by decide +kernel
theorem dJ2_getChar_3b067_29 : decode cJ2_getChar_3b067 29 = .ok (.iconst 1, 1) := by decide +kernel
theorem dJ2_getChar_3b067_30 : decode cJ2_getChar_3b067 30 = .ok (.ishl, 1) := by decide +kernel
theorem dJ2_getChar_3b067_31 : decode cJ2_getChar_3b067 31 = .ok (.istore_n 1, 1) := by decide +kernel
theorem dJ2_getChar_3b067_32 : decode cJ2_getChar_3b067 32 = .ok (.aload_n 0, 1) := by decide +kernel
theorem dJ2_getChar_3b067_33 : decode cJ2_getChar_3b067 33 = .ok (.iload_n 1, 1) := by decide +kernel
theorem dJ2_getChar_3b067_34 : decode cJ2_getChar_3b067 34 = .ok (.iinc 1 1, 3) := by decide +kernel
theorem dJ2_getChar_3b067_37 : decode cJ2_getChar_3b067 37 = .ok (.baload, 1) := by decide +kernel
theorem dJ2_getChar_3b067_38 : decode cJ2_getChar_3b067 38 = .ok (.sipush 255, 3) := by decide +kernel
theorem dJ2_getChar_3b067_41 : decode cJ2_getChar_3b067 41 = .ok (.iand, 1) := by decide +kernel
theorem dJ2_getChar_3b067_42 : decode cJ2_getChar_3b067 42 = .ok (.getstatic 59, 3) := by decide +kernel
theorem dJ2_getChar_3b067_45 : decode cJ2_getChar_3b067 45 = .ok (.ishl, 1) := by decide +kernel
theorem dJ2_getChar_3b067_46 : decode cJ2_getChar_3b067 46 = .ok (.aload_n 0, 1) := by decide +kernel
theorem dJ2_getChar_3b067_47 : decode cJ2_getChar_3b067 47 = .ok (.iload_n 1, 1) := by decide +kernel
theorem dJ2_getChar_3b067_48 : decode cJ2_getChar_3b067 48 = .ok (.baload, 1) := by decide +kernel
theorem dJ2_getChar_3b067_49 : decode cJ2_getChar_3b067 49 = .ok (.sipush 255, 3) := by decide +kernel
theorem dJ2_getChar_3b067_52 : decode cJ2_getChar_3b067 52 = .ok (.iand, 1) := by decide +kernel
theorem dJ2_getChar_3b067_53 : decode cJ2_getChar_3b067 53 = .ok (.getstatic 63, 3) := by decide +kernel
theorem dJ2_getChar_3b067_56 : decode cJ2_getChar_3b067 56 = .ok (.ishl, 1) := by decide +kernel
theorem dJ2_getChar_3b067_57 : decode cJ2_getChar_3b067 57 = .ok (.ior, 1) := by decide +kernel
theorem dJ2_getChar_3b067_58 : decode cJ2_getChar_3b067 58 = .ok (.i2c, 1) := by decide +kernel
theorem dJ2_getChar_3b067_59 : decode cJ2_getChar_3b067 59 = .ok (.ireturn, 1) := by decide +kernel
theorem dJ2_length_9d52b_0 : decode cJ2_length_9d52b 0 = .ok (.aload_n 0, 1) := by decide +kernel
theorem dJ2_length_9d52b_1 : decode cJ2_length_9d52b 1 = .ok (.arraylength, 1) := by decide +kernel
theorem dJ2_length_9d52b_2 : decode cJ2_length_9d52b 2 = .ok (.iconst 1, 1) := by decide +kernel
theorem dJ2_length_9d52b_3 : decode cJ2_length_9d52b 3 = .ok (.ishr, 1) := by decide +kernel
theorem dJ2_length_9d52b_4 : decode cJ2_length_9d52b 4 = .ok (.ireturn, 1) := by decide +kernel
set_option maxRecDepth 20000 in
theorem ggJ2_charAt_3b067_J2_checkIndex_2214a : GoodIn wsJ2_charAt_3b067 wsJ2_checkIndex_2214a := goodIn_r _ [4, 5, 6, 3, 7, 8, 9, 10, 11, 12, 13, 14, 15, 16] (by decide +kernel) (by decide +kernel)
set_option maxRecDepth 20000 in
theorem gJ2_charAt_3b067_J2_checkIndex_2214a : GoodIn wsJ2_charAt_3b067 (va_wsS RJ2 67 yJ2_checkIndex_2214a wsJ2_checkIndex_2214a) := goodIn_app (goodIn_of _ (by decide +kernel)) ggJ2_charAt_3b067_J2_checkIndex_2214a
set_option maxRecDepth 20000 in
theorem ggJ2_charAt_3b067_J2_getChar_3b067 : GoodIn wsJ2_charAt_3b067 wsJ2_getChar_3b067 := goodIn_r _ [19, 20, 21, 22, 5, 6, 3, 7] (by decide +kernel) (by decide +kernel)
set_option maxRecDepth 20000 in
theorem gJ2_charAt_3b067_J2_getChar_3b067 : GoodIn wsJ2_charAt_3b067 (va_wsS RJ2 71 yJ2_getChar_3b067 wsJ2_getChar_3b067) := goodIn_app (goodIn_of _ (by decide +kernel)) ggJ2_charAt_3b067_J2_getChar_3b067
theorem dJ2_charAt_3b067_0 : decode cJ2_charAt_3b067 0 = .ok (.iload_n 1, 1) := by decide +kernel
theorem dJ2_charAt_3b067_1 : decode cJ2_charAt_3b067 1 = .ok (.aload_n 0, 1) := by decide +kernel
theorem dJ2_charAt_3b067_2 : decode cJ2_charAt_3b067 2 = .ok (.invokestatic 67, 3) := by decide +kernel
theorem dJ2_charAt_3b067_5 : decode cJ2_charAt_3b067 5 = .ok (.aload_n 0, 1) := by decide +kernel
theorem dJ2_charAt_3b067_6 : decode cJ2_charAt_3b067 6 = .ok (.iload_n 1, 1) := by decide +kernel
theorem dJ2_charAt_3b067_7 : decode cJ2_charAt_3b067 7 = .ok (.invokestatic 71, 3) := by decide +kernel
theorem dJ2_charAt_3b067_10 : decode cJ2_charAt_3b067 10 = .ok (.ireturn, 1) := by decide +kernel
set_option maxRecDepth 20000 in
theorem ggJ2_checkIndex_2214a_J2_length_9d52b : GoodIn wsJ2_checkIndex_2214a wsJ2_length_9d52b := goodIn_r _ [4] (by decide +kernel) (by decide +kernel)
set_option maxRecDepth 20000 in
theorem gJ2_checkIndex_2214a_J2_length_9d52b : GoodIn wsJ2_checkIndex_2214a (va_wsS RJ2 48 yJ2_length_9d52b wsJ2_length_9d52b) := goodIn_app (goodIn_of _ (by decide +kernel)) ggJ2_checkIndex_2214a_J2_length_9d52b
set_option maxRecDepth 20000 in
theorem ggJ2_checkIndex_2214a_J0_checkIndex_df160 : GoodIn wsJ2_checkIndex_2214a wsJ0_checkIndex_df160 := goodIn_r _ [8, 9, 10, 11, 12, 13] (by decide +kernel) (by decide +kernel)
set_option maxRecDepth 20000 in
theorem gJ2_checkIndex_2214a_J0_checkIndex_df160 : GoodIn wsJ2_checkIndex_2214a (va_wsS RJ2 414 yJ0_checkIndex_df160 wsJ0_checkIndex_df160) := goodIn_app (goodIn_of _ (by decide +kernel)) ggJ2_checkIndex_2214a_J0_checkIndex_df160
theorem dJ2_checkIndex_2214a_0 : decode cJ2_checkIndex_2214a 0 = .ok (.iload_n 0, 1) := by decide +kernel
theorem dJ2_checkIndex_2214a_1 : decode cJ2_checkIndex_2214a 1 = .ok (.aload_n 1, 1) := by decide +kernel
theorem dJ2_checkIndex_2214a_2 : decode cJ2_checkIndex_2214a 2 = .ok (.invokestatic 48, 3) := by decide +kernel
theorem dJ2_checkIndex_2214a_5 : decode cJ2_checkIndex_2214a 5 = .ok (.invokestatic 414, 3) := by decide +kernel
theorem dJ2_checkIndex_2214a_8 : decode cJ2_checkIndex_2214a 8 = .ok (.return_, 1) := by decide +kernel
theorem dJ3_checkIndex_8e157_0 : decode cJ3_checkIndex_8e157 0 = .ok (.iload_n 0, 1) := by decide +kernel
theorem dJ3_checkIndex_8e157_1 : decode cJ3_checkIndex_8e157 1 = .ok (.ifCond .lt 8, 3) := by decide +kernel
theorem dJ3_checkIndex_8e157_4 : decode cJ3_checkIndex_8e157 4 = .ok (.iload_n 0, 1) := by decide +kernel
theorem dJ3_checkIndex_8e157_5 : decode cJ3_checkIndex_8e157 5 = .ok (.iload_n 1, 1) := by decide +kernel
theorem dJ3_checkIndex_8e157_6 : decode cJ3_checkIndex_8e157 6 = .ok (.if_icmp .lt 10, 3) := by decide +kernel
theorem dJ3_checkIndex_8e157_9 : decode cJ3_checkIndex_8e157 9 = .ok (.aload_n 2, 1) := by decide +kernel
theorem dJ3_checkIndex_8e157_10 : decode cJ3_checkIndex_8e157 10 = .ok (.iload_n 0, 1) := by decide +kernel
theorem dJ3_checkIndex_8e157_11 : decode cJ3_checkIndex_8e157 11 = .ok (.iload_n 1, 1) := by decide +kernel
theorem dJ3_checkIndex_8e157_12 : decode cJ3_checkIndex_8e157 12 = .ok (.invokestatic 95, 3) := by decide +kernel
theorem dJ3_checkIndex_8e157_15 : decode cJ3_checkIndex_8e157 15 = .ok (.athrow, 1) := by decide +kernel
theorem dJ3_checkIndex_8e157_16 : decode cJ3_checkIndex_8e157 16 = .ok (.iload_n 0, 1) := by decide +kernel
theorem dJ3_checkIndex_8e157_17 : decode cJ3_checkIndex_8e157 17 = .ok (.ireturn, 1) := by decide +kernel
theorem dJ6_bitCount_0f7a4_0 : decode cJ6_bitCount_0f7a4 0 = .ok (.iload_n 0, 1) := by decide +kernel
theorem dJ6_bitCount_0f7a4_1 : decode cJ6_bitCount_0f7a4 1 = .ok (.iload_n 0, 1) := by decide +kernel
theorem dJ6_bitCount_0f7a4_2 : decode cJ6_bitCount_0f7a4 2 = .ok (.iconst 1, 1) := by decide +kernel
theorem dJ6_bitCount_0f7a4_3 : decode cJ6_bitCount_0f7a4 3 = .ok (.iushr, 1) := by decide +kernel
theorem dJ6_bitCount_0f7a4_4 : decode cJ6_bitCount_0f7a4 4 = .ok (.ldc_w 265, 3) := by decide +kernel
theorem dJ6_bitCount_0f7a4_7 : decode cJ6_bitCount_0f7a4 7 = .ok (.iand, 1) := by decide +kernel
theorem dJ6_bitCount_0f7a4_8 : decode cJ6_bitCount_0f7a4 8 = .ok (.isub, 1) := by decide +kernel
theorem dJ6_bitCount_0f7a4_9 : decode cJ6_bitCount_0f7a4 9 = .ok (.istore_n 0, 1) := by decide +kernel
theorem dJ6_bitCount_0f7a4_10 : decode cJ6_bitCount_0f7a4 10 = .ok (.iload_n 0, 1) := by decide +kernel
theorem dJ6_bitCount_0f7a4_11 : decode cJ6_bitCount_0f7a4 11 = .ok (.ldc_w 266, 3) := by decide +kernel
theorem dJ6_bitCount_0f7a4_14 : decode cJ6_bitCount_0f7a4 14 = .ok (.iand, 1) := by decide +kernel
theorem dJ6_bitCount_0f7a4_15 : decode cJ6_bitCount_0f7a4 15 = .ok (.iload_n 0, 1) := by decide +kernel
theorem dJ6_bitCount_0f7a4_16 : decode cJ6_bitCount_0f7a4 16 = .ok (.iconst 2, 1) := by decide +kernel
theorem dJ6_bitCount_0f7a4_17 : decode cJ6_bitCount_0f7a4 17 = .ok (.iushr, 1) := by decide +kernel
theorem dJ6_bitCount_0f7a4_18 : decode cJ6_bitCount_0f7a4 18 = .ok (.ldc_w 266, 3) := by decide +kernel
theorem dJ6_bitCount_0f7a4_21 : decode cJ6_bitCount_0f7a4 21 = .ok (.iand, 1) := by decide +kernel
theorem dJ6_bitCount_0f7a4_22 : decode cJ6_bitCount_0f7a4 22 = .ok (.iadd, 1) := by decide +kernel
theorem dJ6_bitCount_0f7a4_23 : decode cJ6_bitCount_0f7a4 23 = .ok (.istore_n 0, 1) := by decide +kernel
theorem dJ6_bitCount_0f7a4_24 : decode cJ6_bitCount_0f7a4 24 = .ok (.iload_n 0, 1) := by decide +kernel
theorem dJ6_bitCount_0f7a4_25 : decode cJ6_bitCount_0f7a4 25 = .ok (.iload_n 0, 1) := by decide +kernel
theorem dJ6_bitCount_0f7a4_26 : decode cJ6_bitCount_0f7a4 26 = .ok (.iconst 4, 1) := by decide +kernel
theorem dJ6_bitCount_0f7a4_27 : decode cJ6_bitCount_0f7a4 27 = .ok (.iushr, 1) := by decide +kernel
theorem dJ6_bitCount_0f7a4_28 : decode cJ6_bitCount_0f7a4 28 = .ok (.iadd, 1) := by decide +kernel
theorem dJ6_bitCount_0f7a4_29 : decode cJ6_bitCount_0f7a4 29 = .ok (.ldc_w 267, 3) := by decide +kernel
theorem dJ6_bitCount_0f7a4_32 : decode cJ6_bitCount_0f7a4 32 = .ok (.iand, 1) := by decide +kernel
theorem dJ6_bitCount_0f7a4_33 : decode cJ6_bitCount_0f7a4 33 = .ok (.istore_n 0, 1) := by decide +kernel
theorem dJ6_bitCount_0f7a4_34 : decode cJ6_bitCount_0f7a4 34 = .ok (.iload_n 0, 1) := by decide +kernel
theorem dJ6_bitCount_0f7a4_35 : decode cJ6_bitCount_0f7a4 35 = .ok (.iload_n 0, 1) := by decide +kernel
theorem dJ6_bitCount_0f7a4_36 : decode cJ6_bitCount_0f7a4 36 = .ok (.bipush 8, 2) := by decide +kernel
theorem dJ6_bitCount_0f7a4_38 : decode cJ6_bitCount_0f7a4 38 = .ok (.iushr, 1) := by decide +kernel
theorem dJ6_bitCount_0f7a4_39 : decode cJ6_bitCount_0f7a4 39 = .ok (.iadd, 1) := by decide +kernel
theorem dJ6_bitCount_0f7a4_40 : decode cJ6_bitCount_0f7a4 40 = .ok (.istore_n 0, 1) := by decide +kernel
theorem dJ6_bitCount_0f7a4_41 : decode cJ6_bitCount_0f7a4 41 = .ok (.iload_n 0, 1) := by decide +kernel
theorem dJ6_bitCount_0f7a4_42 : decode cJ6_bitCount_0f7a4 42 = .ok (.iload_n 0, 1) := by decide +kernel
theorem dJ6_bitCount_0f7a4_43 : decode cJ6_bitCount_0f7a4 43 = .ok (.bipush 16, 2) := by decide +kernel
theorem dJ6_bitCount_0f7a4_45 : decode cJ6_bitCount_0f7a4 45 = .ok (.iushr, 1) := by decide +kernel
theorem dJ6_bitCount_0f7a4_46 : decode cJ6_bitCount_0f7a4 46 = .ok (.iadd, 1) := by decide +kernel
theorem dJ6_bitCount_0f7a4_47 : decode cJ6_bitCount_0f7a4 47 = .ok (.istore_n 0, 1) := by decide +kernel
theorem dJ6_bitCount_0f7a4_48 : decode cJ6_bitCount_0f7a4 48 = .ok (.iload_n 0, 1) := by decide +kernel
theorem dJ6_bitCount_0f7a4_49 : decode cJ6_bitCount_0f7a4 49 = .ok (.bipush 63, 2) := by decide +kernel
theorem dJ6_bitCount_0f7a4_51 : decode cJ6_bitCount_0f7a4 51 = .ok (.iand, 1) := by decide +kernel
theorem dJ6_bitCount_0f7a4_52 : decode cJ6_bitCount_0f7a4 52 = .ok (.ireturn, 1) := by decide +kernel
theorem dJ7_fill_d0a16_0 : decode cJ7_fill_d0a16 0 = .ok (.iconst 0, 1) := by decide +kernel
theorem dJ7_fill_d0a16_1 : decode cJ7_fill_d0a16 1 = .ok (.istore_n 3, 1) := by decide +kernel
theorem dJ7_fill_d0a16_2 : decode cJ7_fill_d0a16 2 = .ok (.aload_n 0, 1) := by decide +kernel
theorem dJ7_fill_d0a16_3 : decode cJ7_fill_d0a16 3 = .ok (.arraylength, 1) := by decide +kernel
theorem dJ7_fill_d0a16_4 : decode cJ7_fill_d0a16 4 = .ok (.istore 4, 2) := by decide +kernel
theorem dJ7_fill_d0a16_6 : decode cJ7_fill_d0a16 6 = .ok (.iload_n 3, 1) := by decide +kernel
theorem dJ7_fill_d0a16_7 : decode cJ7_fill_d0a16 7 = .ok (.iload 4, 2) := by decide +kernel
theorem dJ7_fill_d0a16_9 : decode cJ7_fill_d0a16 9 = .ok (.if_icmp .ge 13, 3) := by decide +kernel
theorem dJ7_fill_d0a16_12 : decode cJ7_fill_d0a16 12 = .ok (.aload_n 0, 1) := by decide +kernel
theorem dJ7_fill_d0a16_13 : decode cJ7_fill_d0a16 13 = .ok (.iload_n 3, 1) := by decide +kernel
theorem dJ7_fill_d0a16_14 : decode cJ7_fill_d0a16 14 = .ok (.lload_n 1, 1) := by decide +kernel
theorem dJ7_fill_d0a16_15 : decode cJ7_fill_d0a16 15 = .ok (.lastore, 1) := by decide +kernel
theorem dJ7_fill_d0a16_16 : decode cJ7_fill_d0a16 16 = .ok (.iinc 3 1, 3) := by decide +kernel
theorem dJ7_fill_d0a16_19 : decode cJ7_fill_d0a16 19 = .ok (.goto (-13), 3) := by decide +kernel
theorem dJ7_fill_d0a16_22 : decode cJ7_fill_d0a16 22 = .ok (.return_, 1) := by decide +kernel
theorem dJ9_abs_0f7a4_0 : decode cJ9_abs_0f7a4 0 = .ok (.iload_n 0, 1) := by decide +kernel
theorem dJ9_abs_0f7a4_1 : decode cJ9_abs_0f7a4 1 = .ok (.ifCond .ge 8, 3) := by decide +kernel
theorem dJ9_abs_0f7a4_4 : decode cJ9_abs_0f7a4 4 = .ok (.iload_n 0, 1) := by decide +kernel
theorem dJ9_abs_0f7a4_5 : decode cJ9_abs_0f7a4 5 = .ok (.ineg, 1) := by decide +kernel
theorem dJ9_abs_0f7a4_6 : decode cJ9_abs_0f7a4 6 = .ok (.goto 4, 3) := by decide +kernel
theorem dJ9_abs_0f7a4_9 : decode cJ9_abs_0f7a4 9 = .ok (.iload_n 0, 1) := by decide +kernel
theorem dJ9_abs_0f7a4_10 : decode cJ9_abs_0f7a4 10 = .ok (.ireturn, 1) := by decide +kernel
theorem dJ9_max_7cf53_0 : decode cJ9_max_7cf53 0 = .ok (.iload_n 0, 1) := by decide +kernel
theorem dJ9_max_7cf53_1 : decode cJ9_max_7cf53 1 = .ok (.iload_n 1, 1) := by decide +kernel
theorem dJ9_max_7cf53_2 : decode cJ9_max_7cf53 2 = .ok (.if_icmp .lt 7, 3) := by decide +kernel
theorem dJ9_max_7cf53_5 : decode cJ9_max_7cf53 5 = .ok (.iload_n 0, 1) := by decide +kernel
theorem dJ9_max_7cf53_6 : decode cJ9_max_7cf53 6 = .ok (.goto 4, 3) := by decide +kernel
theorem dJ9_max_7cf53_9 : decode cJ9_max_7cf53 9 = .ok (.iload_n 1, 1) := by decide +kernel
theorem dJ9_max_7cf53_10 : decode cJ9_max_7cf53 10 = .ok (.ireturn, 1) := by decide +kernel
theorem dJ9_min_7cf53_0 : decode cJ9_min_7cf53 0 = .ok (.iload_n 0, 1) := by decide +kernel
theorem dJ9_min_7cf53_1 : decode cJ9_min_7cf53 1 = .ok (.iload_n 1, 1) := by decide +kernel
theorem dJ9_min_7cf53_2 : decode cJ9_min_7cf53 2 = .ok (.if_icmp .gt 7, 3) := by decide +kernel
theorem dJ9_min_7cf53_5 : decode cJ9_min_7cf53 5 = .ok (.iload_n 0, 1) := by decide +kernel
theorem dJ9_min_7cf53_6 : decode cJ9_min_7cf53 6 = .ok (.goto 4, 3) := by decide +kernel
theorem dJ9_min_7cf53_9 : decode cJ9_min_7cf53 9 = .ok (.iload_n 1, 1) := by decide +kernel
theorem dJ9_min_7cf53_10 : decode cJ9_min_7cf53 10 = .ok (.ireturn, 1) := by decide +kernel
