theorem dX11_init_0 : decode cX11_init 0 = .ok (.aload_n 0, 1) := by decide +kernel
theorem dX11_init_1 : decode cX11_init 1 = .ok (.invokespecial 1, 3) := by decide +kernel
theorem dX11_init_4 : decode cX11_init 4 = .ok (.aload_n 0, 1) := by decide +kernel
theorem dX11_init_5 : decode cX11_init 5 = .ok (.sipush 277, 3) := by decide +kernel
theorem dX11_init_8 : decode cX11_init 8 = .ok (.newarray .int, 2) := by decide +kernel
theorem dX11_init_10 : decode cX11_init 10 = .ok (.putfield 7, 3) := by decide +kernel
theorem dX11_init_13 : decode cX11_init 13 = .ok (.aload_n 0, 1) := by decide +kernel
theorem dX11_init_14 : decode cX11_init 14 = .ok (.sipush 554, 3) := by decide +kernel
theorem dX11_init_17 : decode cX11_init 17 = .ok (.newarray .int, 2) := by decide +kernel
theorem dX11_init_19 : decode cX11_init 19 = .ok (.putfield 13, 3) := by decide +kernel
theorem dX11_init_22 : decode cX11_init 22 = .ok (.aload_n 0, 1) := by decide +kernel
theorem dX11_init_23 : decode cX11_init 23 = .ok (.iconst 2, 1) := by decide +kernel
theorem dX11_init_24 : decode cX11_init 24 = .ok (.newarray .boolean, 2) := by decide +kernel
theorem dX11_init_26 : decode cX11_init 26 = .ok (.putfield 16, 3) := by decide +kernel
theorem dX11_init_29 : decode cX11_init 29 = .ok (.aload_n 0, 1) := by decide +kernel
theorem dX11_init_30 : decode cX11_init 30 = .ok (.iconst 3, 1) := by decide +kernel
theorem dX11_init_31 : decode cX11_init 31 = .ok (.newarray .int, 2) := by decide +kernel
theorem dX11_init_33 : decode cX11_init 33 = .ok (.putfield 20, 3) := by decide +kernel
theorem dX11_init_36 : decode cX11_init 36 = .ok (.aload_n 0, 1) := by decide +kernel
theorem dX11_init_37 : decode cX11_init 37 = .ok (.bipush 6, 2) := by decide +kernel
theorem dX11_init_39 : decode cX11_init 39 = .ok (.newarray .int, 2) := by decide +kernel
theorem dX11_init_41 : decode cX11_init 41 = .ok (.putfield 23, 3) := by decide +kernel
theorem dX11_init_44 : decode cX11_init 44 = .ok (.aload_n 0, 1) := by decide +kernel
theorem dX11_init_45 : decode cX11_init 45 = .ok (.bipush 68, 2) := by decide +kernel
theorem dX11_init_47 : decode cX11_init 47 = .ok (.newarray .int, 2) := by decide +kernel
theorem dX11_init_49 : decode cX11_init 49 = .ok (.putfield 26, 3) := by decide +kernel
theorem dX11_init_52 : decode cX11_init 52 = .ok (.aload_n 0, 1) := by decide +kernel
theorem dX11_init_53 : decode cX11_init 53 = .ok (.sipush 15424, 3) := by decide +kernel
theorem dX11_init_56 : decode cX11_init 56 = .ok (.newarray .int, 2) := by decide +kernel
theorem dX11_init_58 : decode cX11_init 58 = .ok (.putfield 29, 3) := by decide +kernel
theorem dX11_init_61 : decode cX11_init 61 = .ok (.aload_n 0, 1) := by decide +kernel
theorem dX11_init_62 : decode cX11_init 62 = .ok (.sipush 240, 3) := by decide +kernel
theorem dX11_init_65 : decode cX11_init 65 = .ok (.newarray .int, 2) := by decide +kernel
theorem dX11_init_67 : decode cX11_init 67 = .ok (.putfield 32, 3) := by decide +kernel
theorem dX11_init_70 : decode cX11_init 70 = .ok (.aload_n 0, 1) := by decide +kernel
theorem dX11_init_71 : decode cX11_init 71 = .ok (.sipush 240, 3) := by decide +kernel
theorem dX11_init_74 : decode cX11_init 74 = .ok (.newarray .int, 2) := by decide +kernel
theorem dX11_init_76 : decode cX11_init 76 = .ok (.putfield 35, 3) := by decide +kernel
theorem dX11_init_79 : decode cX11_init 79 = .ok (.aload_n 0, 1) := by decide +kernel
theorem dX11_init_80 : decode cX11_init 80 = .ok (.sipush 15424, 3) := by decide +kernel
theorem dX11_init_83 : decode cX11_init 83 = .ok (.newarray .boolean, 2) := by decide +kernel
theorem dX11_init_85 : decode cX11_init 85 = .ok (.putfield 38, 3) := by decide +kernel
theorem dX11_init_88 : decode cX11_init 88 = .ok (.aload_n 0, 1) := by decide +kernel
theorem dX11_init_89 : decode cX11_init 89 = .ok (.bipush 64, 2) := by decide +kernel
theorem dX11_init_91 : decode cX11_init 91 = .ok (.newarray .int, 2) := by decide +kernel
theorem dX11_init_93 : decode cX11_init 93 = .ok (.putfield 41, 3) := by decide +kernel
theorem dX11_init_96 : decode cX11_init 96 = .ok (.aload_n 0, 1) := by decide +kernel
theorem dX11_init_97 : decode cX11_init 97 = .ok (.bipush 64, 2) := by decide +kernel
theorem dX11_init_99 : decode cX11_init 99 = .ok (.newarray .int, 2) := by decide +kernel
theorem dX11_init_101 : decode cX11_init 101 = .ok (.putfield 44, 3) := by decide +kernel
theorem dX11_init_104 : decode cX11_init 104 = .ok (.aload_n 0, 1) := by decide +kernel
theorem dX11_init_105 : decode cX11_init 105 = .ok (.iconst 5, 1) := by decide +kernel
theorem dX11_init_106 : decode cX11_init 106 = .ok (.newarray .int, 2) := by decide +kernel
theorem dX11_init_108 : decode cX11_init 108 = .ok (.putfield 47, 3) := by decide +kernel
theorem dX11_init_111 : decode cX11_init 111 = .ok (.aload_n 0, 1) := by decide +kernel
theorem dX11_init_112 : decode cX11_init 112 = .ok (.iconst 5, 1) := by decide +kernel
theorem dX11_init_113 : decode cX11_init 113 = .ok (.newarray .int, 2) := by decide +kernel
theorem dX11_init_115 : decode cX11_init 115 = .ok (.putfield 50, 3) := by decide +kernel
theorem dX11_init_118 : decode cX11_init 118 = .ok (.aload_n 0, 1) := by decide +kernel
theorem dX11_init_119 : decode cX11_init 119 = .ok (.getfield 7, 3) := by decide +kernel
theorem dX11_init_122 : decode cX11_init 122 = .ok (.bipush 24, 2) := by decide +kernel
theorem dX11_init_124 : decode cX11_init 124 = .ok (.iconst 2, 1) := by decide +kernel
theorem dX11_init_125 : decode cX11_init 125 = .ok (.iastore, 1) := by decide +kernel
theorem dX11_init_126 : decode cX11_init 126 = .ok (.aload_n 0, 1) := by decide +kernel
theorem dX11_init_127 : decode cX11_init 127 = .ok (.getfield 7, 3) := by decide +kernel
theorem dX11_init_130 : decode cX11_init 130 = .ok (.bipush 25, 2) := by decide +kernel
theorem dX11_init_132 : decode cX11_init 132 = .ok (.bipush 120, 2) := by decide +kernel
theorem dX11_init_134 : decode cX11_init 134 = .ok (.iastore, 1) := by decide +kernel
theorem dX11_init_135 : decode cX11_init 135 = .ok (.aload_n 0, 1) := by decide +kernel
theorem dX11_init_136 : decode cX11_init 136 = .ok (.getfield 7, 3) := by decide +kernel
theorem dX11_init_139 : decode cX11_init 139 = .ok (.bipush 26, 2) := by decide +kernel
theorem dX11_init_141 : decode cX11_init 141 = .ok (.iconst 3, 1) := by decide +kernel
theorem dX11_init_142 : decode cX11_init 142 = .ok (.iastore, 1) := by decide +kernel
theorem dX11_init_143 : decode cX11_init 143 = .ok (.aload_n 0, 1) := by decide +kernel
theorem dX11_init_144 : decode cX11_init 144 = .ok (.getfield 7, 3) := by decide +kernel
theorem dX11_init_147 : decode cX11_init 147 = .ok (.bipush 27, 2) := by decide +kernel
theorem dX11_init_149 : decode cX11_init 149 = .ok (.sipush 180, 3) := by decide +kernel
theorem dX11_init_152 : decode cX11_init 152 = .ok (.iastore, 1) := by decide +kernel
theorem dX11_init_153 : decode cX11_init 153 = .ok (.return_, 1) := by decide +kernel
theorem dX11_in_0 : decode cX11_in 0 = .ok (.lload_n 0, 1) := by decide +kernel
theorem dX11_in_1 : decode cX11_in 1 = .ok (.lload_n 2, 1) := by decide +kernel
theorem dX11_in_2 : decode cX11_in 2 = .ok (.lcmp, 1) := by decide +kernel
theorem dX11_in_3 : decode cX11_in 3 = .ok (.ifCond .lt 14, 3) := by decide +kernel
theorem dX11_in_6 : decode cX11_in 6 = .ok (.lload_n 0, 1) := by decide +kernel
theorem dX11_in_7 : decode cX11_in 7 = .ok (.lload 4, 2) := by decide +kernel
theorem dX11_in_9 : decode cX11_in 9 = .ok (.lcmp, 1) := by decide +kernel
theorem dX11_in_10 : decode cX11_in 10 = .ok (.ifCond .gt 7, 3) := by decide +kernel
theorem dX11_in_13 : decode cX11_in 13 = .ok (.iconst 1, 1) := by decide +kernel
theorem dX11_in_14 : decode cX11_in 14 = .ok (.goto 4, 3) := by decide +kernel
theorem dX11_in_17 : decode cX11_in 17 = .ok (.iconst 0, 1) := by decide +kernel
theorem dX11_in_18 : decode cX11_in 18 = .ok (.ireturn, 1) := by decide +kernel
theorem dX11_bad_0 : decode cX11_bad 0 = .ok (.aload_n 0, 1) := by decide +kernel
theorem dX11_bad_1 : decode cX11_bad 1 = .ok (.getfield 20, 3) := by decide +kernel
theorem dX11_bad_4 : decode cX11_bad 4 = .ok (.iconst 0, 1) := by decide +kernel
theorem dX11_bad_5 : decode cX11_bad 5 = .ok (.dup2, 1) := by decide +kernel
theorem dX11_bad_6 : decode cX11_bad 6 = .ok (.iaload, 1) := by decide +kernel
theorem dX11_bad_7 : decode cX11_bad 7 = .ok (.iconst 1, 1) := by decide +kernel
theorem dX11_bad_8 : decode cX11_bad 8 = .ok (.iadd, 1) := by decide +kernel
theorem dX11_bad_9 : decode cX11_bad 9 = .ok (.iastore, 1) := by decide +kernel
theorem dX11_bad_10 : decode cX11_bad 10 = .ok (.iload_n 1, 1) := by decide +kernel
theorem dX11_bad_11 : decode cX11_bad 11 = .ok (.ireturn, 1) := by decide +kernel
theorem dX11_no_0 : decode cX11_no 0 = .ok (.aload_n 0, 1) := by decide +kernel
theorem dX11_no_1 : decode cX11_no 1 = .ok (.getfield 20, 3) := by decide +kernel
theorem dX11_no_4 : decode cX11_no 4 = .ok (.iconst 1, 1) := by decide +kernel
theorem dX11_no_5 : decode cX11_no 5 = .ok (.dup2, 1) := by decide +kernel
theorem dX11_no_6 : decode cX11_no 6 = .ok (.iaload, 1) := by decide +kernel
theorem dX11_no_7 : decode cX11_no 7 = .ok (.iconst 1, 1) := by decide +kernel
theorem dX11_no_8 : decode cX11_no 8 = .ok (.iadd, 1) := by decide +kernel
theorem dX11_no_9 : decode cX11_no 9 = .ok (.iastore, 1) := by decide +kernel
theorem dX11_no_10 : decode cX11_no 10 = .ok (.iload_n 1, 1) := by decide +kernel
theorem dX11_no_11 : decode cX11_no 11 = .ok (.ireturn, 1) := by decide +kernel
theorem dX11_full_0 : decode cX11_full 0 = .ok (.aload_n 0, 1) := by decide +kernel
theorem dX11_full_1 : decode cX11_full 1 = .ok (.getfield 20, 3) := by decide +kernel
theorem dX11_full_4 : decode cX11_full 4 = .ok (.iconst 2, 1) := by decide +kernel
theorem dX11_full_5 : decode cX11_full 5 = .ok (.dup2, 1) := by decide +kernel
theorem dX11_full_6 : decode cX11_full 6 = .ok (.iaload, 1) := by decide +kernel
theorem dX11_full_7 : decode cX11_full 7 = .ok (.iconst 1, 1) := by decide +kernel
theorem dX11_full_8 : decode cX11_full 8 = .ok (.iadd, 1) := by decide +kernel
theorem dX11_full_9 : decode cX11_full 9 = .ok (.iastore, 1) := by decide +kernel
theorem dX11_full_10 : decode cX11_full 10 = .ok (.bipush (-4), 2) := by decide +kernel
theorem dX11_full_12 : decode cX11_full 12 = .ok (.ireturn, 1) := by decide +kernel
theorem dX11_porters_0 : decode cX11_porters 0 = .ok (.aload_n 0, 1) := by decide +kernel
theorem dX11_porters_1 : decode cX11_porters 1 = .ok (.getfield 7, 3) := by decide +kernel
theorem dX11_porters_4 : decode cX11_porters 4 = .ok (.sipush 274, 3) := by decide +kernel
theorem dX11_porters_7 : decode cX11_porters 7 = .ok (.iaload, 1) := by decide +kernel
theorem dX11_porters_8 : decode cX11_porters 8 = .ok (.ireturn, 1) := by decide +kernel
theorem dX11_number_0 : decode cX11_number 0 = .ok (.aload_n 0, 1) := by decide +kernel
theorem dX11_number_1 : decode cX11_number 1 = .ok (.getfield 7, 3) := by decide +kernel
theorem dX11_number_4 : decode cX11_number 4 = .ok (.bipush 24, 2) := by decide +kernel
theorem dX11_number_6 : decode cX11_number 6 = .ok (.iload_n 1, 1) := by decide +kernel
theorem dX11_number_7 : decode cX11_number 7 = .ok (.iadd, 1) := by decide +kernel
theorem dX11_number_8 : decode cX11_number 8 = .ok (.iaload, 1) := by decide +kernel
theorem dX11_number_9 : decode cX11_number 9 = .ok (.ireturn, 1) := by decide +kernel
theorem dX11_told_0 : decode cX11_told 0 = .ok (.aload_n 0, 1) := by decide +kernel
theorem dX11_told_1 : decode cX11_told 1 = .ok (.getfield 7, 3) := by decide +kernel
theorem dX11_told_4 : decode cX11_told 4 = .ok (.iconst 0, 1) := by decide +kernel
theorem dX11_told_5 : decode cX11_told 5 = .ok (.iconst 4, 1) := by decide +kernel
theorem dX11_told_6 : decode cX11_told 6 = .ok (.iload_n 1, 1) := by decide +kernel
theorem dX11_told_7 : decode cX11_told 7 = .ok (.imul, 1) := by decide +kernel
theorem dX11_told_8 : decode cX11_told 8 = .ok (.iadd, 1) := by decide +kernel
theorem dX11_told_9 : decode cX11_told 9 = .ok (.iload_n 2, 1) := by decide +kernel
theorem dX11_told_10 : decode cX11_told 10 = .ok (.iadd, 1) := by decide +kernel
theorem dX11_told_11 : decode cX11_told 11 = .ok (.iaload, 1) := by decide +kernel
theorem dX11_told_12 : decode cX11_told 12 = .ok (.ireturn, 1) := by decide +kernel
set_option maxRecDepth 20000 in
theorem ggX11_isPorter_X11_porters : GoodIn wsX11_isPorter wsX11_porters := goodIn_r _ [5, 6, 10, 11, 12, 13, 14, 15, 16, 17, 18, 19, 20, 21, 22, 23, 24, 25, 26, 27, 28, 29, 30, 31, 32, 33, 34] (by decide +kernel) (by decide +kernel)
set_option maxRecDepth 20000 in
theorem gX11_isPorter_X11_porters : GoodIn wsX11_isPorter (wsV RX11 53 RX11 yX11_porters wsX11_porters) := goodIn_app (goodIn_of _ (by decide +kernel)) ggX11_isPorter_X11_porters
set_option maxRecDepth 20000 in
theorem ggX11_isPorter_X11_in : GoodIn wsX11_isPorter wsX11_in := goodIn_r _ [9] (by decide +kernel) (by decide +kernel)
set_option maxRecDepth 20000 in
theorem gX11_isPorter_X11_in : GoodIn wsX11_isPorter (va_wsS RX11 57 yX11_in wsX11_in) := goodIn_app (goodIn_of _ (by decide +kernel)) ggX11_isPorter_X11_in
theorem dX11_isPorter_0 : decode cX11_isPorter 0 = .ok (.iload_n 1, 1) := by decide +kernel
theorem dX11_isPorter_1 : decode cX11_isPorter 1 = .ok (.i2l, 1) := by decide +kernel
theorem dX11_isPorter_2 : decode cX11_isPorter 2 = .ok (.lconst 0, 1) := by decide +kernel
theorem dX11_isPorter_3 : decode cX11_isPorter 3 = .ok (.aload_n 0, 1) := by decide +kernel
theorem dX11_isPorter_4 : decode cX11_isPorter 4 = .ok (.invokevirtual 53, 3) := by decide +kernel
theorem dX11_isPorter_7 : decode cX11_isPorter 7 = .ok (.iconst 1, 1) := by decide +kernel
theorem dX11_isPorter_8 : decode cX11_isPorter 8 = .ok (.isub, 1) := by decide +kernel
theorem dX11_isPorter_9 : decode cX11_isPorter 9 = .ok (.i2l, 1) := by decide +kernel
theorem dX11_isPorter_10 : decode cX11_isPorter 10 = .ok (.invokestatic 57, 3) := by decide +kernel
theorem dX11_isPorter_13 : decode cX11_isPorter 13 = .ok (.ireturn, 1) := by decide +kernel
set_option maxRecDepth 20000 in
theorem ggX11_all_X11_porters : GoodIn wsX11_all wsX11_porters := goodIn_r _ [5, 6, 7, 8, 9, 10, 11, 12, 13, 14, 15, 16, 17, 18, 19, 20, 21, 22, 23, 24, 25, 26, 27, 28, 29, 30, 31] (by decide +kernel) (by decide +kernel)
set_option maxRecDepth 20000 in
theorem gX11_all_X11_porters : GoodIn wsX11_all (wsV RX11 53 RX11 yX11_porters wsX11_porters) := goodIn_app (goodIn_of _ (by decide +kernel)) ggX11_all_X11_porters
theorem dX11_all_0 : decode cX11_all 0 = .ok (.iconst 1, 1) := by decide +kernel
theorem dX11_all_1 : decode cX11_all 1 = .ok (.aload_n 0, 1) := by decide +kernel
theorem dX11_all_2 : decode cX11_all 2 = .ok (.invokevirtual 53, 3) := by decide +kernel
theorem dX11_all_5 : decode cX11_all 5 = .ok (.ishl, 1) := by decide +kernel
theorem dX11_all_6 : decode cX11_all 6 = .ok (.iconst 1, 1) := by decide +kernel
theorem dX11_all_7 : decode cX11_all 7 = .ok (.isub, 1) := by decide +kernel
theorem dX11_all_8 : decode cX11_all 8 = .ok (.ireturn, 1) := by decide +kernel
set_option maxRecDepth 20000 in
theorem ggX11_isTold_X11_in : GoodIn wsX11_isTold wsX11_in := goodIn_r _ [8] (by decide +kernel) (by decide +kernel)
set_option maxRecDepth 20000 in
theorem gX11_isTold_X11_in : GoodIn wsX11_isTold (va_wsS RX11 57 yX11_in wsX11_in) := goodIn_app (goodIn_of _ (by decide +kernel)) ggX11_isTold_X11_in
theorem dX11_isTold_0 : decode cX11_isTold 0 = .ok (.iload_n 0, 1) := by decide +kernel
theorem dX11_isTold_1 : decode cX11_isTold 1 = .ok (.i2l, 1) := by decide +kernel
theorem dX11_isTold_2 : decode cX11_isTold 2 = .ok (.lconst 1, 1) := by decide +kernel
theorem dX11_isTold_3 : decode cX11_isTold 3 = .ok (.ldc2_w 61, 3) := by decide +kernel
theorem dX11_isTold_6 : decode cX11_isTold 6 = .ok (.invokestatic 57, 3) := by decide +kernel
theorem dX11_isTold_9 : decode cX11_isTold 9 = .ok (.ifCond .eq 43, 3) := by decide +kernel
theorem dX11_isTold_12 : decode cX11_isTold 12 = .ok (.iload_n 1, 1) := by decide +kernel
theorem dX11_isTold_13 : decode cX11_isTold 13 = .ok (.i2l, 1) := by decide +kernel
theorem dX11_isTold_14 : decode cX11_isTold 14 = .ok (.lconst 1, 1) := by decide +kernel
theorem dX11_isTold_15 : decode cX11_isTold 15 = .ok (.ldc2_w 63, 3) := by decide +kernel
theorem dX11_isTold_18 : decode cX11_isTold 18 = .ok (.invokestatic 57, 3) := by decide +kernel
theorem dX11_isTold_21 : decode cX11_isTold 21 = .ok (.ifCond .eq 31, 3) := by decide +kernel
theorem dX11_isTold_24 : decode cX11_isTold 24 = .ok (.iload_n 2, 1) := by decide +kernel
theorem dX11_isTold_25 : decode cX11_isTold 25 = .ok (.i2l, 1) := by decide +kernel
theorem dX11_isTold_26 : decode cX11_isTold 26 = .ok (.lconst 0, 1) := by decide +kernel
theorem dX11_isTold_27 : decode cX11_isTold 27 = .ok (.ldc2_w 65, 3) := by decide +kernel
theorem dX11_isTold_30 : decode cX11_isTold 30 = .ok (.invokestatic 57, 3) := by decide +kernel
theorem dX11_isTold_33 : decode cX11_isTold 33 = .ok (.ifCond .eq 19, 3) := by decide +kernel
theorem dX11_isTold_36 : decode cX11_isTold 36 = .ok (.iload_n 3, 1) := by decide +kernel
theorem dX11_isTold_37 : decode cX11_isTold 37 = .ok (.i2l, 1) := by decide +kernel
theorem dX11_isTold_38 : decode cX11_isTold 38 = .ok (.lconst 0, 1) := by decide +kernel
theorem dX11_isTold_39 : decode cX11_isTold 39 = .ok (.ldc2_w 67, 3) := by decide +kernel
theorem dX11_isTold_42 : decode cX11_isTold 42 = .ok (.invokestatic 57, 3) := by decide +kernel
theorem dX11_isTold_45 : decode cX11_isTold 45 = .ok (.ifCond .eq 7, 3) := by decide +kernel
theorem dX11_isTold_48 : decode cX11_isTold 48 = .ok (.iconst 1, 1) := by decide +kernel
theorem dX11_isTold_49 : decode cX11_isTold 49 = .ok (.goto 4, 3) := by decide +kernel
theorem dX11_isTold_52 : decode cX11_isTold 52 = .ok (.iconst 0, 1) := by decide +kernel
theorem dX11_isTold_53 : decode cX11_isTold 53 = .ok (.ireturn, 1) := by decide +kernel
set_option maxRecDepth 20000 in
theorem ggX11_porter_X11_isTold : GoodIn wsX11_porter wsX11_isTold := goodIn_r _ [5, 6, 7, 8, 9, 10, 11, 4, 12] (by decide +kernel) (by decide +kernel)
set_option maxRecDepth 20000 in
theorem gX11_porter_X11_isTold : GoodIn wsX11_porter (va_wsS RX11 69 yX11_isTold wsX11_isTold) := goodIn_app (goodIn_of _ (by decide +kernel)) ggX11_porter_X11_isTold
set_option maxRecDepth 20000 in
theorem ggX11_porter_X11_bad : GoodIn wsX11_porter wsX11_bad := goodIn_r _ [16, 17, 26, 27, 28, 29, 30, 31, 32, 33, 34, 35, 36, 37, 38, 39, 40, 41, 42, 43, 44, 45, 46, 47, 48, 49, 50] (by decide +kernel) (by decide +kernel)
set_option maxRecDepth 20000 in
theorem gX11_porter_X11_bad : GoodIn wsX11_porter (wsV RX11 73 RX11 yX11_bad wsX11_bad) := goodIn_app (goodIn_of _ (by decide +kernel)) ggX11_porter_X11_bad
set_option maxRecDepth 20000 in
theorem ggX11_porter_X11_porters : GoodIn wsX11_porter wsX11_porters := goodIn_r _ [21, 1, 26, 27, 28, 29, 30, 31, 32, 33, 34, 35, 36, 37, 38, 39, 40, 41, 42, 43, 44, 45, 46, 47, 48, 49, 50] (by decide +kernel) (by decide +kernel)
set_option maxRecDepth 20000 in
theorem gX11_porter_X11_porters : GoodIn wsX11_porter (wsV RX11 53 RX11 yX11_porters wsX11_porters) := goodIn_app (goodIn_of _ (by decide +kernel)) ggX11_porter_X11_porters
set_option maxRecDepth 20000 in
theorem ggX11_porter_X11_full : GoodIn wsX11_porter wsX11_full := goodIn_r _ [25, 17, 26, 27, 28, 29, 30, 31, 32, 33, 34, 35, 36, 37, 38, 39, 40, 41, 42, 43, 44, 45, 46, 47, 48, 49, 50] (by decide +kernel) (by decide +kernel)
set_option maxRecDepth 20000 in
theorem gX11_porter_X11_full : GoodIn wsX11_porter (wsV RX11 77 RX11 yX11_full wsX11_full) := goodIn_app (goodIn_of _ (by decide +kernel)) ggX11_porter_X11_full
theorem dX11_porter_0 : decode cX11_porter 0 = .ok (.iload_n 1, 1) := by decide +kernel
theorem dX11_porter_1 : decode cX11_porter 1 = .ok (.iload_n 2, 1) := by decide +kernel
theorem dX11_porter_2 : decode cX11_porter 2 = .ok (.iload_n 3, 1) := by decide +kernel
theorem dX11_porter_3 : decode cX11_porter 3 = .ok (.iload 4, 2) := by decide +kernel
theorem dX11_porter_5 : decode cX11_porter 5 = .ok (.invokestatic 69, 3) := by decide +kernel
theorem dX11_porter_8 : decode cX11_porter 8 = .ok (.ifCond .ne 10, 3) := by decide +kernel
theorem dX11_porter_11 : decode cX11_porter 11 = .ok (.aload_n 0, 1) := by decide +kernel
theorem dX11_porter_12 : decode cX11_porter 12 = .ok (.bipush (-2), 2) := by decide +kernel
theorem dX11_porter_14 : decode cX11_porter 14 = .ok (.invokevirtual 73, 3) := by decide +kernel
theorem dX11_porter_17 : decode cX11_porter 17 = .ok (.ireturn, 1) := by decide +kernel
theorem dX11_porter_18 : decode cX11_porter 18 = .ok (.aload_n 0, 1) := by decide +kernel
theorem dX11_porter_19 : decode cX11_porter 19 = .ok (.invokevirtual 53, 3) := by decide +kernel
theorem dX11_porter_22 : decode cX11_porter 22 = .ok (.istore 5, 2) := by decide +kernel
theorem dX11_porter_24 : decode cX11_porter 24 = .ok (.iload 5, 2) := by decide +kernel
theorem dX11_porter_26 : decode cX11_porter 26 = .ok (.bipush 6, 2) := by decide +kernel
theorem dX11_porter_28 : decode cX11_porter 28 = .ok (.if_icmp .ne 8, 3) := by decide +kernel
theorem dX11_porter_31 : decode cX11_porter 31 = .ok (.aload_n 0, 1) := by decide +kernel
theorem dX11_porter_32 : decode cX11_porter 32 = .ok (.invokevirtual 77, 3) := by decide +kernel
theorem dX11_porter_35 : decode cX11_porter 35 = .ok (.ireturn, 1) := by decide +kernel
theorem dX11_porter_36 : decode cX11_porter 36 = .ok (.aload_n 0, 1) := by decide +kernel
theorem dX11_porter_37 : decode cX11_porter 37 = .ok (.getfield 7, 3) := by decide +kernel
theorem dX11_porter_40 : decode cX11_porter 40 = .ok (.iconst 0, 1) := by decide +kernel
theorem dX11_porter_41 : decode cX11_porter 41 = .ok (.iconst 4, 1) := by decide +kernel
theorem dX11_porter_42 : decode cX11_porter 42 = .ok (.iload 5, 2) := by decide +kernel
theorem dX11_porter_44 : decode cX11_porter 44 = .ok (.imul, 1) := by decide +kernel
theorem dX11_porter_45 : decode cX11_porter 45 = .ok (.iadd, 1) := by decide +kernel
theorem dX11_porter_46 : decode cX11_porter 46 = .ok (.iload_n 1, 1) := by decide +kernel
theorem dX11_porter_47 : decode cX11_porter 47 = .ok (.iastore, 1) := by decide +kernel
theorem dX11_porter_48 : decode cX11_porter 48 = .ok (.aload_n 0, 1) := by decide +kernel
theorem dX11_porter_49 : decode cX11_porter 49 = .ok (.getfield 7, 3) := by decide +kernel
theorem dX11_porter_52 : decode cX11_porter 52 = .ok (.iconst 0, 1) := by decide +kernel
theorem dX11_porter_53 : decode cX11_porter 53 = .ok (.iconst 4, 1) := by decide +kernel
theorem dX11_porter_54 : decode cX11_porter 54 = .ok (.iload 5, 2) := by decide +kernel
theorem dX11_porter_56 : decode cX11_porter 56 = .ok (.imul, 1) := by decide +kernel
theorem dX11_porter_57 : decode cX11_porter 57 = .ok (.iadd, 1) := by decide +kernel
theorem dX11_porter_58 : decode cX11_porter 58 = .ok (.iconst 1, 1) := by decide +kernel
theorem dX11_porter_59 : decode cX11_porter 59 = .ok (.iadd, 1) := by decide +kernel
theorem dX11_porter_60 : decode cX11_porter 60 = .ok (.iload_n 2, 1) := by decide +kernel
theorem dX11_porter_61 : decode cX11_porter 61 = .ok (.iastore, 1) := by decide +kernel
theorem dX11_porter_62 : decode cX11_porter 62 = .ok (.aload_n 0, 1) := by decide +kernel
theorem dX11_porter_63 : decode cX11_porter 63 = .ok (.getfield 7, 3) := by decide +kernel
theorem dX11_porter_66 : decode cX11_porter 66 = .ok (.iconst 0, 1) := by decide +kernel
theorem dX11_porter_67 : decode cX11_porter 67 = .ok (.iconst 4, 1) := by decide +kernel
theorem dX11_porter_68 : decode cX11_porter 68 = .ok (.iload 5, 2) := by decide +kernel
theorem dX11_porter_70 : decode cX11_porter 70 = .ok (.imul, 1) := by decide +kernel
theorem dX11_porter_71 : decode cX11_porter 71 = .ok (.iadd, 1) := by decide +kernel
theorem dX11_porter_72 : decode cX11_porter 72 = .ok (.iconst 2, 1) := by decide +kernel
theorem dX11_porter_73 : decode cX11_porter 73 = .ok (.iadd, 1) := by decide +kernel
theorem dX11_porter_74 : decode cX11_porter 74 = .ok (.iload_n 3, 1) := by decide +kernel
theorem dX11_porter_75 : decode cX11_porter 75 = .ok (.iastore, 1) := by decide +kernel
theorem dX11_porter_76 : decode cX11_porter 76 = .ok (.aload_n 0, 1) := by decide +kernel
theorem dX11_porter_77 : decode cX11_porter 77 = .ok (.getfield 7, 3) := by decide +kernel
theorem dX11_porter_80 : decode cX11_porter 80 = .ok (.iconst 0, 1) := by decide +kernel
theorem dX11_porter_81 : decode cX11_porter 81 = .ok (.iconst 4, 1) := by decide +kernel
theorem dX11_porter_82 : decode cX11_porter 82 = .ok (.iload 5, 2) := by decide +kernel
theorem dX11_porter_84 : decode cX11_porter 84 = .ok (.imul, 1) := by decide +kernel
theorem dX11_porter_85 : decode cX11_porter 85 = .ok (.iadd, 1) := by decide +kernel
theorem dX11_porter_86 : decode cX11_porter 86 = .ok (.iconst 3, 1) := by decide +kernel
theorem dX11_porter_87 : decode cX11_porter 87 = .ok (.iadd, 1) := by decide +kernel
theorem dX11_porter_88 : decode cX11_porter 88 = .ok (.iload 4, 2) := by decide +kernel
theorem dX11_porter_90 : decode cX11_porter 90 = .ok (.iastore, 1) := by decide +kernel
theorem dX11_porter_91 : decode cX11_porter 91 = .ok (.aload_n 0, 1) := by decide +kernel
theorem dX11_porter_92 : decode cX11_porter 92 = .ok (.getfield 7, 3) := by decide +kernel
theorem dX11_porter_95 : decode cX11_porter 95 = .ok (.sipush 274, 3) := by decide +kernel
theorem dX11_porter_98 : decode cX11_porter 98 = .ok (.dup2, 1) := by decide +kernel
theorem dX11_porter_99 : decode cX11_porter 99 = .ok (.iaload, 1) := by decide +kernel
theorem dX11_porter_100 : decode cX11_porter 100 = .ok (.iconst 1, 1) := by decide +kernel
theorem dX11_porter_101 : decode cX11_porter 101 = .ok (.iadd, 1) := by decide +kernel
theorem dX11_porter_102 : decode cX11_porter 102 = .ok (.iastore, 1) := by decide +kernel
theorem dX11_porter_103 : decode cX11_porter 103 = .ok (.iload 5, 2) := by decide +kernel
theorem dX11_porter_105 : decode cX11_porter 105 = .ok (.ireturn, 1) := by decide +kernel
theorem dX11_mostOf_0 : decode cX11_mostOf 0 = .ok (.iload_n 0, 1) := by decide +kernel
theorem dX11_mostOf_1 : decode cX11_mostOf 1 = .ok (.iconst 1, 1) := by decide +kernel
theorem dX11_mostOf_2 : decode cX11_mostOf 2 = .ok (.if_icmp .ne 9, 3) := by decide +kernel
theorem dX11_mostOf_5 : decode cX11_mostOf 5 = .ok (.sipush 239, 3) := by decide +kernel
theorem dX11_mostOf_8 : decode cX11_mostOf 8 = .ok (.goto 16, 3) := by decide +kernel
theorem dX11_mostOf_11 : decode cX11_mostOf 11 = .ok (.iload_n 0, 1) := by decide +kernel
theorem dX11_mostOf_12 : decode cX11_mostOf 12 = .ok (.iconst 3, 1) := by decide +kernel
theorem dX11_mostOf_13 : decode cX11_mostOf 13 = .ok (.if_icmp .ne 9, 3) := by decide +kernel
theorem dX11_mostOf_16 : decode cX11_mostOf 16 = .ok (.sipush 240, 3) := by decide +kernel
theorem dX11_mostOf_19 : decode cX11_mostOf 19 = .ok (.goto 5, 3) := by decide +kernel
theorem dX11_mostOf_22 : decode cX11_mostOf 22 = .ok (.bipush 20, 2) := by decide +kernel
theorem dX11_mostOf_24 : decode cX11_mostOf 24 = .ok (.ireturn, 1) := by decide +kernel
set_option maxRecDepth 20000 in
theorem ggX11_put_X11_in : GoodIn wsX11_put wsX11_in := goodIn_r _ [6] (by decide +kernel) (by decide +kernel)
set_option maxRecDepth 20000 in
theorem gX11_put_X11_in : GoodIn wsX11_put (va_wsS RX11 57 yX11_in wsX11_in) := goodIn_app (goodIn_of _ (by decide +kernel)) ggX11_put_X11_in
set_option maxRecDepth 20000 in
theorem ggX11_put_X11_mostOf : GoodIn wsX11_put wsX11_mostOf := goodIn_r _ [9] (by decide +kernel) (by decide +kernel)
set_option maxRecDepth 20000 in
theorem gX11_put_X11_mostOf : GoodIn wsX11_put (va_wsS RX11 82 yX11_mostOf wsX11_mostOf) := goodIn_app (goodIn_of _ (by decide +kernel)) ggX11_put_X11_mostOf
set_option maxRecDepth 20000 in
theorem ggX11_put_X11_bad : GoodIn wsX11_put wsX11_bad := goodIn_r _ [13, 14, 19, 20, 21, 22, 23, 24, 25, 26, 27, 28, 29, 30, 31, 32, 33, 34, 35, 36, 37, 38, 39, 40, 41, 42, 43] (by decide +kernel) (by decide +kernel)
set_option maxRecDepth 20000 in
theorem gX11_put_X11_bad : GoodIn wsX11_put (wsV RX11 73 RX11 yX11_bad wsX11_bad) := goodIn_app (goodIn_of _ (by decide +kernel)) ggX11_put_X11_bad
set_option maxRecDepth 20000 in
theorem ggX11_put_X11_number : GoodIn wsX11_put wsX11_number := goodIn_r _ [18, 2, 19, 20, 21, 22, 23, 24, 25, 26, 27, 28, 29, 30, 31, 32, 33, 34, 35, 36, 37, 38, 39, 40, 41, 42, 43] (by decide +kernel) (by decide +kernel)
set_option maxRecDepth 20000 in
theorem gX11_put_X11_number : GoodIn wsX11_put (wsV RX11 85 RX11 yX11_number wsX11_number) := goodIn_app (goodIn_of _ (by decide +kernel)) ggX11_put_X11_number
theorem dX11_put_0 : decode cX11_put 0 = .ok (.iload_n 1, 1) := by decide +kernel
theorem dX11_put_1 : decode cX11_put 1 = .ok (.i2l, 1) := by decide +kernel
theorem dX11_put_2 : decode cX11_put 2 = .ok (.lconst 0, 1) := by decide +kernel
theorem dX11_put_3 : decode cX11_put 3 = .ok (.ldc2_w 80, 3) := by decide +kernel
theorem dX11_put_6 : decode cX11_put 6 = .ok (.invokestatic 57, 3) := by decide +kernel
theorem dX11_put_9 : decode cX11_put 9 = .ok (.ifCond .eq 17, 3) := by decide +kernel
theorem dX11_put_12 : decode cX11_put 12 = .ok (.iload_n 2, 1) := by decide +kernel
theorem dX11_put_13 : decode cX11_put 13 = .ok (.i2l, 1) := by decide +kernel
theorem dX11_put_14 : decode cX11_put 14 = .ok (.lconst 0, 1) := by decide +kernel
theorem dX11_put_15 : decode cX11_put 15 = .ok (.iload_n 1, 1) := by decide +kernel
theorem dX11_put_16 : decode cX11_put 16 = .ok (.invokestatic 82, 3) := by decide +kernel
theorem dX11_put_19 : decode cX11_put 19 = .ok (.i2l, 1) := by decide +kernel
theorem dX11_put_20 : decode cX11_put 20 = .ok (.invokestatic 57, 3) := by decide +kernel
theorem dX11_put_23 : decode cX11_put 23 = .ok (.ifCond .ne 10, 3) := by decide +kernel
theorem dX11_put_26 : decode cX11_put 26 = .ok (.aload_n 0, 1) := by decide +kernel
theorem dX11_put_27 : decode cX11_put 27 = .ok (.bipush (-2), 2) := by decide +kernel
theorem dX11_put_29 : decode cX11_put 29 = .ok (.invokevirtual 73, 3) := by decide +kernel
theorem dX11_put_32 : decode cX11_put 32 = .ok (.ireturn, 1) := by decide +kernel
theorem dX11_put_33 : decode cX11_put 33 = .ok (.aload_n 0, 1) := by decide +kernel
theorem dX11_put_34 : decode cX11_put 34 = .ok (.iload_n 1, 1) := by decide +kernel
theorem dX11_put_35 : decode cX11_put 35 = .ok (.invokevirtual 85, 3) := by decide +kernel
theorem dX11_put_38 : decode cX11_put 38 = .ok (.istore_n 3, 1) := by decide +kernel
theorem dX11_put_39 : decode cX11_put 39 = .ok (.aload_n 0, 1) := by decide +kernel
theorem dX11_put_40 : decode cX11_put 40 = .ok (.getfield 7, 3) := by decide +kernel
theorem dX11_put_43 : decode cX11_put 43 = .ok (.bipush 24, 2) := by decide +kernel
theorem dX11_put_45 : decode cX11_put 45 = .ok (.iload_n 1, 1) := by decide +kernel
theorem dX11_put_46 : decode cX11_put 46 = .ok (.iadd, 1) := by decide +kernel
theorem dX11_put_47 : decode cX11_put 47 = .ok (.iload_n 2, 1) := by decide +kernel
theorem dX11_put_48 : decode cX11_put 48 = .ok (.iastore, 1) := by decide +kernel
theorem dX11_put_49 : decode cX11_put 49 = .ok (.iload_n 3, 1) := by decide +kernel
theorem dX11_put_50 : decode cX11_put 50 = .ok (.ireturn, 1) := by decide +kernel
set_option maxRecDepth 20000 in
theorem ggX11_weightOf_X11_told : GoodIn wsX11_weightOf wsX11_told := goodIn_r _ [5, 6, 11, 12, 13, 14, 15, 16, 17, 18, 19, 20, 21, 22, 23, 24, 25, 26, 27, 28, 29, 30, 31, 32, 33, 34, 35] (by decide +kernel) (by decide +kernel)
set_option maxRecDepth 20000 in
theorem gX11_weightOf_X11_told : GoodIn wsX11_weightOf (wsV RX11 88 RX11 yX11_told wsX11_told) := goodIn_app (goodIn_of _ (by decide +kernel)) ggX11_weightOf_X11_told
set_option maxRecDepth 20000 in
theorem ggX11_weightOf_X11_number : GoodIn wsX11_weightOf wsX11_number := goodIn_r _ [10, 6, 11, 12, 13, 14, 15, 16, 17, 18, 19, 20, 21, 22, 23, 24, 25, 26, 27, 28, 29, 30, 31, 32, 33, 34, 35] (by decide +kernel) (by decide +kernel)
set_option maxRecDepth 20000 in
theorem gX11_weightOf_X11_number : GoodIn wsX11_weightOf (wsV RX11 85 RX11 yX11_number wsX11_number) := goodIn_app (goodIn_of _ (by decide +kernel)) ggX11_weightOf_X11_number
theorem dX11_weightOf_0 : decode cX11_weightOf 0 = .ok (.aload_n 0, 1) := by decide +kernel
theorem dX11_weightOf_1 : decode cX11_weightOf 1 = .ok (.iload_n 1, 1) := by decide +kernel
theorem dX11_weightOf_2 : decode cX11_weightOf 2 = .ok (.iconst 3, 1) := by decide +kernel
theorem dX11_weightOf_3 : decode cX11_weightOf 3 = .ok (.invokevirtual 88, 3) := by decide +kernel
theorem dX11_weightOf_6 : decode cX11_weightOf 6 = .ok (.istore_n 3, 1) := by decide +kernel
theorem dX11_weightOf_7 : decode cX11_weightOf 7 = .ok (.iload_n 3, 1) := by decide +kernel
theorem dX11_weightOf_8 : decode cX11_weightOf 8 = .ok (.iconst 2, 1) := by decide +kernel
theorem dX11_weightOf_9 : decode cX11_weightOf 9 = .ok (.if_icmp .eq 8, 3) := by decide +kernel
theorem dX11_weightOf_12 : decode cX11_weightOf 12 = .ok (.iload_n 3, 1) := by decide +kernel
theorem dX11_weightOf_13 : decode cX11_weightOf 13 = .ok (.iconst 4, 1) := by decide +kernel
theorem dX11_weightOf_14 : decode cX11_weightOf 14 = .ok (.if_icmp .ne 16, 3) := by decide +kernel
theorem dX11_weightOf_17 : decode cX11_weightOf 17 = .ok (.iload_n 2, 1) := by decide +kernel
theorem dX11_weightOf_18 : decode cX11_weightOf 18 = .ok (.aload_n 0, 1) := by decide +kernel
theorem dX11_weightOf_19 : decode cX11_weightOf 19 = .ok (.iconst 1, 1) := by decide +kernel
theorem dX11_weightOf_20 : decode cX11_weightOf 20 = .ok (.invokevirtual 85, 3) := by decide +kernel
theorem dX11_weightOf_23 : decode cX11_weightOf 23 = .ok (.if_icmp .lt 7, 3) := by decide +kernel
theorem dX11_weightOf_26 : decode cX11_weightOf 26 = .ok (.iconst 1, 1) := by decide +kernel
theorem dX11_weightOf_27 : decode cX11_weightOf 27 = .ok (.goto 4, 3) := by decide +kernel
theorem dX11_weightOf_30 : decode cX11_weightOf 30 = .ok (.iconst 0, 1) := by decide +kernel
theorem dX11_weightOf_31 : decode cX11_weightOf 31 = .ok (.istore 4, 2) := by decide +kernel
theorem dX11_weightOf_33 : decode cX11_weightOf 33 = .ok (.aload_n 0, 1) := by decide +kernel
theorem dX11_weightOf_34 : decode cX11_weightOf 34 = .ok (.iload_n 1, 1) := by decide +kernel
theorem dX11_weightOf_35 : decode cX11_weightOf 35 = .ok (.iconst 0, 1) := by decide +kernel
theorem dX11_weightOf_36 : decode cX11_weightOf 36 = .ok (.invokevirtual 88, 3) := by decide +kernel
theorem dX11_weightOf_39 : decode cX11_weightOf 39 = .ok (.iload 4, 2) := by decide +kernel
theorem dX11_weightOf_41 : decode cX11_weightOf 41 = .ok (.ifCond .eq 11, 3) := by decide +kernel
theorem dX11_weightOf_44 : decode cX11_weightOf 44 = .ok (.aload_n 0, 1) := by decide +kernel
theorem dX11_weightOf_45 : decode cX11_weightOf 45 = .ok (.iconst 2, 1) := by decide +kernel
theorem dX11_weightOf_46 : decode cX11_weightOf 46 = .ok (.invokevirtual 85, 3) := by decide +kernel
theorem dX11_weightOf_49 : decode cX11_weightOf 49 = .ok (.goto 4, 3) := by decide +kernel
theorem dX11_weightOf_52 : decode cX11_weightOf 52 = .ok (.iconst 0, 1) := by decide +kernel
theorem dX11_weightOf_53 : decode cX11_weightOf 53 = .ok (.iadd, 1) := by decide +kernel
theorem dX11_weightOf_54 : decode cX11_weightOf 54 = .ok (.ireturn, 1) := by decide +kernel
set_option maxRecDepth 20000 in
theorem ggX11_timeOf_X11_told : GoodIn wsX11_timeOf wsX11_told := goodIn_r _ [5, 6, 7, 8, 9, 10, 11, 12, 13, 14, 15, 16, 17, 18, 19, 20, 21, 22, 23, 24, 25, 26, 27, 28, 29, 30, 31] (by decide +kernel) (by decide +kernel)
set_option maxRecDepth 20000 in
theorem gX11_timeOf_X11_told : GoodIn wsX11_timeOf (wsV RX11 88 RX11 yX11_told wsX11_told) := goodIn_app (goodIn_of _ (by decide +kernel)) ggX11_timeOf_X11_told
theorem dX11_timeOf_0 : decode cX11_timeOf 0 = .ok (.aload_n 0, 1) := by decide +kernel
theorem dX11_timeOf_1 : decode cX11_timeOf 1 = .ok (.iload_n 1, 1) := by decide +kernel
theorem dX11_timeOf_2 : decode cX11_timeOf 2 = .ok (.iconst 3, 1) := by decide +kernel
theorem dX11_timeOf_3 : decode cX11_timeOf 3 = .ok (.invokevirtual 88, 3) := by decide +kernel
theorem dX11_timeOf_6 : decode cX11_timeOf 6 = .ok (.istore_n 2, 1) := by decide +kernel
theorem dX11_timeOf_7 : decode cX11_timeOf 7 = .ok (.iload_n 2, 1) := by decide +kernel
theorem dX11_timeOf_8 : decode cX11_timeOf 8 = .ok (.iconst 1, 1) := by decide +kernel
theorem dX11_timeOf_9 : decode cX11_timeOf 9 = .ok (.if_icmp .eq 8, 3) := by decide +kernel
theorem dX11_timeOf_12 : decode cX11_timeOf 12 = .ok (.iload_n 2, 1) := by decide +kernel
theorem dX11_timeOf_13 : decode cX11_timeOf 13 = .ok (.iconst 3, 1) := by decide +kernel
theorem dX11_timeOf_14 : decode cX11_timeOf 14 = .ok (.if_icmp .ne 14, 3) := by decide +kernel
theorem dX11_timeOf_17 : decode cX11_timeOf 17 = .ok (.iconst 2, 1) := by decide +kernel
theorem dX11_timeOf_18 : decode cX11_timeOf 18 = .ok (.aload_n 0, 1) := by decide +kernel
theorem dX11_timeOf_19 : decode cX11_timeOf 19 = .ok (.iload_n 1, 1) := by decide +kernel
theorem dX11_timeOf_20 : decode cX11_timeOf 20 = .ok (.iconst 1, 1) := by decide +kernel
theorem dX11_timeOf_21 : decode cX11_timeOf 21 = .ok (.invokevirtual 88, 3) := by decide +kernel
theorem dX11_timeOf_24 : decode cX11_timeOf 24 = .ok (.imul, 1) := by decide +kernel
theorem dX11_timeOf_25 : decode cX11_timeOf 25 = .ok (.goto 9, 3) := by decide +kernel
theorem dX11_timeOf_28 : decode cX11_timeOf 28 = .ok (.aload_n 0, 1) := by decide +kernel
theorem dX11_timeOf_29 : decode cX11_timeOf 29 = .ok (.iload_n 1, 1) := by decide +kernel
theorem dX11_timeOf_30 : decode cX11_timeOf 30 = .ok (.iconst 1, 1) := by decide +kernel
theorem dX11_timeOf_31 : decode cX11_timeOf 31 = .ok (.invokevirtual 88, 3) := by decide +kernel
theorem dX11_timeOf_34 : decode cX11_timeOf 34 = .ok (.ireturn, 1) := by decide +kernel
set_option maxRecDepth 20000 in
theorem ggX11_of_X11_isPorter : GoodIn wsX11_of wsX11_isPorter := goodIn_r _ [6, 7, 8, 9, 5, 10, 11, 12, 13, 14, 36, 37, 38, 39, 40, 41, 42, 43, 44, 45, 46, 47, 48, 49, 50, 51, 52, 53, 54, 55, 56, 57, 58, 59, 60] (by decide +kernel) (by decide +kernel)
set_option maxRecDepth 20000 in
theorem gX11_of_X11_isPorter : GoodIn wsX11_of (wsV RX11 92 RX11 yX11_isPorter wsX11_isPorter) := goodIn_app (goodIn_of _ (by decide +kernel)) ggX11_of_X11_isPorter
set_option maxRecDepth 20000 in
theorem ggX11_of_X11_in : GoodIn wsX11_of wsX11_in := goodIn_r _ [14] (by decide +kernel) (by decide +kernel)
set_option maxRecDepth 20000 in
theorem gX11_of_X11_in : GoodIn wsX11_of (va_wsS RX11 57 yX11_in wsX11_in) := goodIn_app (goodIn_of _ (by decide +kernel)) ggX11_of_X11_in
set_option maxRecDepth 20000 in
theorem ggX11_of_X11_bad : GoodIn wsX11_of wsX11_bad := goodIn_r _ [18, 19, 36, 37, 38, 39, 40, 41, 42, 43, 44, 45, 46, 47, 48, 49, 50, 51, 52, 53, 54, 55, 56, 57, 58, 59, 60] (by decide +kernel) (by decide +kernel)
set_option maxRecDepth 20000 in
theorem gX11_of_X11_bad : GoodIn wsX11_of (wsV RX11 73 RX11 yX11_bad wsX11_bad) := goodIn_app (goodIn_of _ (by decide +kernel)) ggX11_of_X11_bad
set_option maxRecDepth 20000 in
theorem ggX11_of_X11_weightOf : GoodIn wsX11_of wsX11_weightOf := goodIn_r _ [23, 24, 25, 26, 5, 27, 11, 28, 29, 30, 31, 36, 37, 38, 39, 40, 41, 42, 43, 44, 45, 46, 47, 48, 49, 50, 51, 52, 53, 54, 55, 56, 57, 58, 59, 60] (by decide +kernel) (by decide +kernel)
set_option maxRecDepth 20000 in
theorem gX11_of_X11_weightOf : GoodIn wsX11_of (wsV RX11 98 RX11 yX11_weightOf wsX11_weightOf) := goodIn_app (goodIn_of _ (by decide +kernel)) ggX11_of_X11_weightOf
set_option maxRecDepth 20000 in
theorem ggX11_of_X11_timeOf : GoodIn wsX11_of wsX11_timeOf := goodIn_r _ [35, 24, 25, 26, 5, 27, 11, 36, 37, 38, 39, 40, 41, 42, 43, 44, 45, 46, 47, 48, 49, 50, 51, 52, 53, 54, 55, 56, 57, 58, 59, 60] (by decide +kernel) (by decide +kernel)
set_option maxRecDepth 20000 in
theorem gX11_of_X11_timeOf : GoodIn wsX11_of (wsV RX11 101 RX11 yX11_timeOf wsX11_timeOf) := goodIn_app (goodIn_of _ (by decide +kernel)) ggX11_of_X11_timeOf
theorem dX11_of_0 : decode cX11_of 0 = .ok (.aload_n 0, 1) := by decide +kernel
theorem dX11_of_1 : decode cX11_of 1 = .ok (.iload_n 1, 1) := by decide +kernel
theorem dX11_of_2 : decode cX11_of 2 = .ok (.invokevirtual 92, 3) := by decide +kernel
theorem dX11_of_5 : decode cX11_of 5 = .ok (.ifCond .eq 25, 3) := by decide +kernel
theorem dX11_of_8 : decode cX11_of 8 = .ok (.iload_n 2, 1) := by decide +kernel
theorem dX11_of_9 : decode cX11_of 9 = .ok (.i2l, 1) := by decide +kernel
theorem dX11_of_10 : decode cX11_of 10 = .ok (.lconst 0, 1) := by decide +kernel
theorem dX11_of_11 : decode cX11_of 11 = .ok (.ldc2_w 96, 3) := by decide +kernel
theorem dX11_of_14 : decode cX11_of 14 = .ok (.invokestatic 57, 3) := by decide +kernel
theorem dX11_of_17 : decode cX11_of 17 = .ok (.ifCond .eq 13, 3) := by decide +kernel
theorem dX11_of_20 : decode cX11_of 20 = .ok (.iload_n 3, 1) := by decide +kernel
theorem dX11_of_21 : decode cX11_of 21 = .ok (.i2l, 1) := by decide +kernel
theorem dX11_of_22 : decode cX11_of 22 = .ok (.lconst 0, 1) := by decide +kernel
theorem dX11_of_23 : decode cX11_of 23 = .ok (.lconst 1, 1) := by decide +kernel
theorem dX11_of_24 : decode cX11_of 24 = .ok (.invokestatic 57, 3) := by decide +kernel
theorem dX11_of_27 : decode cX11_of 27 = .ok (.ifCond .ne 10, 3) := by decide +kernel
theorem dX11_of_30 : decode cX11_of 30 = .ok (.aload_n 0, 1) := by decide +kernel
theorem dX11_of_31 : decode cX11_of 31 = .ok (.bipush (-2), 2) := by decide +kernel
theorem dX11_of_33 : decode cX11_of 33 = .ok (.invokevirtual 73, 3) := by decide +kernel
theorem dX11_of_36 : decode cX11_of 36 = .ok (.ireturn, 1) := by decide +kernel
theorem dX11_of_37 : decode cX11_of 37 = .ok (.iload_n 3, 1) := by decide +kernel
theorem dX11_of_38 : decode cX11_of 38 = .ok (.ifCond .ne 12, 3) := by decide +kernel
theorem dX11_of_41 : decode cX11_of 41 = .ok (.aload_n 0, 1) := by decide +kernel
theorem dX11_of_42 : decode cX11_of 42 = .ok (.iload_n 1, 1) := by decide +kernel
theorem dX11_of_43 : decode cX11_of 43 = .ok (.iload_n 2, 1) := by decide +kernel
theorem dX11_of_44 : decode cX11_of 44 = .ok (.invokevirtual 98, 3) := by decide +kernel
theorem dX11_of_47 : decode cX11_of 47 = .ok (.goto 8, 3) := by decide +kernel
theorem dX11_of_50 : decode cX11_of 50 = .ok (.aload_n 0, 1) := by decide +kernel
theorem dX11_of_51 : decode cX11_of 51 = .ok (.iload_n 1, 1) := by decide +kernel
theorem dX11_of_52 : decode cX11_of 52 = .ok (.invokevirtual 101, 3) := by decide +kernel
theorem dX11_of_55 : decode cX11_of 55 = .ok (.ireturn, 1) := by decide +kernel
theorem dX11_manyIn_0 : decode cX11_manyIn 0 = .ok (.iconst 0, 1) := by decide +kernel
theorem dX11_manyIn_1 : decode cX11_manyIn 1 = .ok (.istore_n 1, 1) := by decide +kernel
theorem dX11_manyIn_2 : decode cX11_manyIn 2 = .ok (.iconst 0, 1) := by decide +kernel
theorem dX11_manyIn_3 : decode cX11_manyIn 3 = .ok (.istore_n 2, 1) := by decide +kernel
theorem dX11_manyIn_4 : decode cX11_manyIn 4 = .ok (.iload_n 2, 1) := by decide +kernel
theorem dX11_manyIn_5 : decode cX11_manyIn 5 = .ok (.bipush 6, 2) := by decide +kernel
theorem dX11_manyIn_7 : decode cX11_manyIn 7 = .ok (.if_icmp .ge 17, 3) := by decide +kernel
theorem dX11_manyIn_10 : decode cX11_manyIn 10 = .ok (.iload_n 1, 1) := by decide +kernel
theorem dX11_manyIn_11 : decode cX11_manyIn 11 = .ok (.iload_n 0, 1) := by decide +kernel
theorem dX11_manyIn_12 : decode cX11_manyIn 12 = .ok (.iload_n 2, 1) := by decide +kernel
theorem dX11_manyIn_13 : decode cX11_manyIn 13 = .ok (.ishr, 1) := by decide +kernel
theorem dX11_manyIn_14 : decode cX11_manyIn 14 = .ok (.iconst 1, 1) := by decide +kernel
theorem dX11_manyIn_15 : decode cX11_manyIn 15 = .ok (.iand, 1) := by decide +kernel
theorem dX11_manyIn_16 : decode cX11_manyIn 16 = .ok (.iadd, 1) := by decide +kernel
theorem dX11_manyIn_17 : decode cX11_manyIn 17 = .ok (.istore_n 1, 1) := by decide +kernel
theorem dX11_manyIn_18 : decode cX11_manyIn 18 = .ok (.iinc 2 1, 3) := by decide +kernel
theorem dX11_manyIn_21 : decode cX11_manyIn 21 = .ok (.goto (-17), 3) := by decide +kernel
theorem dX11_manyIn_24 : decode cX11_manyIn 24 = .ok (.iload_n 1, 1) := by decide +kernel
theorem dX11_manyIn_25 : decode cX11_manyIn 25 = .ok (.ireturn, 1) := by decide +kernel
theorem dX11_firstIn_0 : decode cX11_firstIn 0 = .ok (.iconst 0, 1) := by decide +kernel
theorem dX11_firstIn_1 : decode cX11_firstIn 1 = .ok (.istore_n 1, 1) := by decide +kernel
theorem dX11_firstIn_2 : decode cX11_firstIn 2 = .ok (.iload_n 0, 1) := by decide +kernel
theorem dX11_firstIn_3 : decode cX11_firstIn 3 = .ok (.iload_n 1, 1) := by decide +kernel
theorem dX11_firstIn_4 : decode cX11_firstIn 4 = .ok (.ishr, 1) := by decide +kernel
theorem dX11_firstIn_5 : decode cX11_firstIn 5 = .ok (.iconst 1, 1) := by decide +kernel
theorem dX11_firstIn_6 : decode cX11_firstIn 6 = .ok (.iand, 1) := by decide +kernel
theorem dX11_firstIn_7 : decode cX11_firstIn 7 = .ok (.ifCond .ne 9, 3) := by decide +kernel
theorem dX11_firstIn_10 : decode cX11_firstIn 10 = .ok (.iinc 1 1, 3) := by decide +kernel
theorem dX11_firstIn_13 : decode cX11_firstIn 13 = .ok (.goto (-11), 3) := by decide +kernel
theorem dX11_firstIn_16 : decode cX11_firstIn 16 = .ok (.iload_n 1, 1) := by decide +kernel
theorem dX11_firstIn_17 : decode cX11_firstIn 17 = .ok (.ireturn, 1) := by decide +kernel
set_option maxRecDepth 20000 in
theorem ggX11_isNever_X11_told : GoodIn wsX11_isNever wsX11_told := goodIn_r _ [5, 6, 7, 8, 9, 10, 11, 12, 13, 14, 15, 16, 17, 18, 19, 20, 21, 22, 23, 24, 25, 26, 27, 28, 29, 30, 31] (by decide +kernel) (by decide +kernel)
set_option maxRecDepth 20000 in
theorem gX11_isNever_X11_told : GoodIn wsX11_isNever (wsV RX11 88 RX11 yX11_told wsX11_told) := goodIn_app (goodIn_of _ (by decide +kernel)) ggX11_isNever_X11_told
theorem dX11_isNever_0 : decode cX11_isNever 0 = .ok (.aload_n 0, 1) := by decide +kernel
theorem dX11_isNever_1 : decode cX11_isNever 1 = .ok (.iload_n 1, 1) := by decide +kernel
theorem dX11_isNever_2 : decode cX11_isNever 2 = .ok (.iconst 3, 1) := by decide +kernel
theorem dX11_isNever_3 : decode cX11_isNever 3 = .ok (.invokevirtual 88, 3) := by decide +kernel
theorem dX11_isNever_6 : decode cX11_isNever 6 = .ok (.istore 4, 2) := by decide +kernel
theorem dX11_isNever_8 : decode cX11_isNever 8 = .ok (.iload 4, 2) := by decide +kernel
theorem dX11_isNever_10 : decode cX11_isNever 10 = .ok (.iconst 3, 1) := by decide +kernel
theorem dX11_isNever_11 : decode cX11_isNever 11 = .ok (.if_icmp .ne 17, 3) := by decide +kernel
theorem dX11_isNever_14 : decode cX11_isNever 14 = .ok (.iload_n 1, 1) := by decide +kernel
theorem dX11_isNever_15 : decode cX11_isNever 15 = .ok (.ifCond .eq 23, 3) := by decide +kernel
theorem dX11_isNever_18 : decode cX11_isNever 18 = .ok (.iload_n 2, 1) := by decide +kernel
theorem dX11_isNever_19 : decode cX11_isNever 19 = .ok (.iload_n 1, 1) := by decide +kernel
theorem dX11_isNever_20 : decode cX11_isNever 20 = .ok (.iconst 1, 1) := by decide +kernel
theorem dX11_isNever_21 : decode cX11_isNever 21 = .ok (.isub, 1) := by decide +kernel
theorem dX11_isNever_22 : decode cX11_isNever 22 = .ok (.ishr, 1) := by decide +kernel
theorem dX11_isNever_23 : decode cX11_isNever 23 = .ok (.iconst 1, 1) := by decide +kernel
theorem dX11_isNever_24 : decode cX11_isNever 24 = .ok (.iand, 1) := by decide +kernel
theorem dX11_isNever_25 : decode cX11_isNever 25 = .ok (.ifCond .eq 13, 3) := by decide +kernel
theorem dX11_isNever_28 : decode cX11_isNever 28 = .ok (.iload 4, 2) := by decide +kernel
theorem dX11_isNever_30 : decode cX11_isNever 30 = .ok (.iconst 4, 1) := by decide +kernel
theorem dX11_isNever_31 : decode cX11_isNever 31 = .ok (.if_icmp .ne 11, 3) := by decide +kernel
theorem dX11_isNever_34 : decode cX11_isNever 34 = .ok (.iload_n 3, 1) := by decide +kernel
theorem dX11_isNever_35 : decode cX11_isNever 35 = .ok (.ifCond .eq 7, 3) := by decide +kernel
theorem dX11_isNever_38 : decode cX11_isNever 38 = .ok (.iconst 1, 1) := by decide +kernel
theorem dX11_isNever_39 : decode cX11_isNever 39 = .ok (.goto 4, 3) := by decide +kernel
theorem dX11_isNever_42 : decode cX11_isNever 42 = .ok (.iconst 0, 1) := by decide +kernel
theorem dX11_isNever_43 : decode cX11_isNever 43 = .ok (.ireturn, 1) := by decide +kernel
set_option maxRecDepth 20000 in
theorem ggX11_anyNever_X11_porters : GoodIn wsX11_anyNever wsX11_porters := goodIn_r _ [5, 6, 15, 16, 17, 18, 19, 20, 21, 22, 23, 24, 25, 26, 27, 28, 29, 30, 31, 32, 33, 34, 35, 36, 37, 38, 39] (by decide +kernel) (by decide +kernel)
set_option maxRecDepth 20000 in
theorem gX11_anyNever_X11_porters : GoodIn wsX11_anyNever (wsV RX11 53 RX11 yX11_porters wsX11_porters) := goodIn_app (goodIn_of _ (by decide +kernel)) ggX11_anyNever_X11_porters
set_option maxRecDepth 20000 in
theorem ggX11_anyNever_X11_isNever : GoodIn wsX11_anyNever wsX11_isNever := goodIn_r _ [10, 11, 12, 13, 4, 14, 6, 15, 16, 17, 18, 19, 20, 21, 22, 23, 24, 25, 26, 27, 28, 29, 30, 31, 32, 33, 34, 35, 36, 37, 38, 39] (by decide +kernel) (by decide +kernel)
set_option maxRecDepth 20000 in
theorem gX11_anyNever_X11_isNever : GoodIn wsX11_anyNever (wsV RX11 104 RX11 yX11_isNever wsX11_isNever) := goodIn_app (goodIn_of _ (by decide +kernel)) ggX11_anyNever_X11_isNever
theorem dX11_anyNever_0 : decode cX11_anyNever 0 = .ok (.iconst 0, 1) := by decide +kernel
theorem dX11_anyNever_1 : decode cX11_anyNever 1 = .ok (.istore_n 3, 1) := by decide +kernel
theorem dX11_anyNever_2 : decode cX11_anyNever 2 = .ok (.iconst 0, 1) := by decide +kernel
theorem dX11_anyNever_3 : decode cX11_anyNever 3 = .ok (.istore 4, 2) := by decide +kernel
theorem dX11_anyNever_5 : decode cX11_anyNever 5 = .ok (.iload 4, 2) := by decide +kernel
theorem dX11_anyNever_7 : decode cX11_anyNever 7 = .ok (.aload_n 0, 1) := by decide +kernel
theorem dX11_anyNever_8 : decode cX11_anyNever 8 = .ok (.invokevirtual 53, 3) := by decide +kernel
theorem dX11_anyNever_11 : decode cX11_anyNever 11 = .ok (.if_icmp .ge 40, 3) := by decide +kernel
theorem dX11_anyNever_14 : decode cX11_anyNever 14 = .ok (.iload_n 3, 1) := by decide +kernel
theorem dX11_anyNever_15 : decode cX11_anyNever 15 = .ok (.ifCond .ne 24, 3) := by decide +kernel
theorem dX11_anyNever_18 : decode cX11_anyNever 18 = .ok (.iload_n 1, 1) := by decide +kernel
theorem dX11_anyNever_19 : decode cX11_anyNever 19 = .ok (.iload 4, 2) := by decide +kernel
theorem dX11_anyNever_21 : decode cX11_anyNever 21 = .ok (.ishr, 1) := by decide +kernel
theorem dX11_anyNever_22 : decode cX11_anyNever 22 = .ok (.iconst 1, 1) := by decide +kernel
theorem dX11_anyNever_23 : decode cX11_anyNever 23 = .ok (.iand, 1) := by decide +kernel
theorem dX11_anyNever_24 : decode cX11_anyNever 24 = .ok (.iconst 1, 1) := by decide +kernel
theorem dX11_anyNever_25 : decode cX11_anyNever 25 = .ok (.if_icmp .ne 18, 3) := by decide +kernel
theorem dX11_anyNever_28 : decode cX11_anyNever 28 = .ok (.aload_n 0, 1) := by decide +kernel
theorem dX11_anyNever_29 : decode cX11_anyNever 29 = .ok (.iload 4, 2) := by decide +kernel
theorem dX11_anyNever_31 : decode cX11_anyNever 31 = .ok (.iload_n 1, 1) := by decide +kernel
theorem dX11_anyNever_32 : decode cX11_anyNever 32 = .ok (.iload_n 2, 1) := by decide +kernel
theorem dX11_anyNever_33 : decode cX11_anyNever 33 = .ok (.invokevirtual 104, 3) := by decide +kernel
theorem dX11_anyNever_36 : decode cX11_anyNever 36 = .ok (.ifCond .eq 7, 3) := by decide +kernel
theorem dX11_anyNever_39 : decode cX11_anyNever 39 = .ok (.iconst 1, 1) := by decide +kernel
theorem dX11_anyNever_40 : decode cX11_anyNever 40 = .ok (.goto 4, 3) := by decide +kernel
theorem dX11_anyNever_43 : decode cX11_anyNever 43 = .ok (.iconst 0, 1) := by decide +kernel
theorem dX11_anyNever_44 : decode cX11_anyNever 44 = .ok (.istore_n 3, 1) := by decide +kernel
theorem dX11_anyNever_45 : decode cX11_anyNever 45 = .ok (.iinc 4 1, 3) := by decide +kernel
theorem dX11_anyNever_48 : decode cX11_anyNever 48 = .ok (.goto (-43), 3) := by decide +kernel
theorem dX11_anyNever_51 : decode cX11_anyNever 51 = .ok (.iload_n 3, 1) := by decide +kernel
theorem dX11_anyNever_52 : decode cX11_anyNever 52 = .ok (.ireturn, 1) := by decide +kernel
set_option maxRecDepth 20000 in
theorem ggX11_areUnlike_X11_weightOf : GoodIn wsX11_areUnlike wsX11_weightOf := goodIn_r _ [6, 7, 8, 9, 5, 10, 11, 12, 13, 14, 15, 16, 17, 18, 19, 20, 21, 22, 23, 24, 25, 26, 27, 28, 29, 30, 31, 32, 33, 34, 35, 36, 37, 38, 39, 40] (by decide +kernel) (by decide +kernel)
set_option maxRecDepth 20000 in
theorem gX11_areUnlike_X11_weightOf : GoodIn wsX11_areUnlike (wsV RX11 98 RX11 yX11_weightOf wsX11_weightOf) := goodIn_app (goodIn_of _ (by decide +kernel)) ggX11_areUnlike_X11_weightOf
set_option maxRecDepth 20000 in
theorem ggX11_areUnlike_X11_told : GoodIn wsX11_areUnlike wsX11_told := goodIn_r _ [10, 11, 16, 17, 18, 19, 20, 21, 22, 23, 24, 25, 26, 27, 28, 29, 30, 31, 32, 33, 34, 35, 36, 37, 38, 39, 40] (by decide +kernel) (by decide +kernel)
set_option maxRecDepth 20000 in
theorem gX11_areUnlike_X11_told : GoodIn wsX11_areUnlike (wsV RX11 88 RX11 yX11_told wsX11_told) := goodIn_app (goodIn_of _ (by decide +kernel)) ggX11_areUnlike_X11_told
set_option maxRecDepth 20000 in
theorem ggX11_areUnlike_X11_number : GoodIn wsX11_areUnlike wsX11_number := goodIn_r _ [15, 11, 16, 17, 18, 19, 20, 21, 22, 23, 24, 25, 26, 27, 28, 29, 30, 31, 32, 33, 34, 35, 36, 37, 38, 39, 40] (by decide +kernel) (by decide +kernel)
set_option maxRecDepth 20000 in
theorem gX11_areUnlike_X11_number : GoodIn wsX11_areUnlike (wsV RX11 85 RX11 yX11_number wsX11_number) := goodIn_app (goodIn_of _ (by decide +kernel)) ggX11_areUnlike_X11_number
theorem dX11_areUnlike_0 : decode cX11_areUnlike 0 = .ok (.aload_n 0, 1) := by decide +kernel
theorem dX11_areUnlike_1 : decode cX11_areUnlike 1 = .ok (.iload_n 1, 1) := by decide +kernel
theorem dX11_areUnlike_2 : decode cX11_areUnlike 2 = .ok (.iload_n 3, 1) := by decide +kernel
theorem dX11_areUnlike_3 : decode cX11_areUnlike 3 = .ok (.invokevirtual 98, 3) := by decide +kernel
theorem dX11_areUnlike_6 : decode cX11_areUnlike 6 = .ok (.aload_n 0, 1) := by decide +kernel
theorem dX11_areUnlike_7 : decode cX11_areUnlike 7 = .ok (.getfield 23, 3) := by decide +kernel
theorem dX11_areUnlike_10 : decode cX11_areUnlike 10 = .ok (.iload_n 1, 1) := by decide +kernel
theorem dX11_areUnlike_11 : decode cX11_areUnlike 11 = .ok (.iaload, 1) := by decide +kernel
theorem dX11_areUnlike_12 : decode cX11_areUnlike 12 = .ok (.iadd, 1) := by decide +kernel
theorem dX11_areUnlike_13 : decode cX11_areUnlike 13 = .ok (.aload_n 0, 1) := by decide +kernel
theorem dX11_areUnlike_14 : decode cX11_areUnlike 14 = .ok (.iload_n 2, 1) := by decide +kernel
theorem dX11_areUnlike_15 : decode cX11_areUnlike 15 = .ok (.iload_n 3, 1) := by decide +kernel
theorem dX11_areUnlike_16 : decode cX11_areUnlike 16 = .ok (.invokevirtual 98, 3) := by decide +kernel
theorem dX11_areUnlike_19 : decode cX11_areUnlike 19 = .ok (.isub, 1) := by decide +kernel
theorem dX11_areUnlike_20 : decode cX11_areUnlike 20 = .ok (.aload_n 0, 1) := by decide +kernel
theorem dX11_areUnlike_21 : decode cX11_areUnlike 21 = .ok (.getfield 23, 3) := by decide +kernel
theorem dX11_areUnlike_24 : decode cX11_areUnlike 24 = .ok (.iload_n 2, 1) := by decide +kernel
theorem dX11_areUnlike_25 : decode cX11_areUnlike 25 = .ok (.iaload, 1) := by decide +kernel
theorem dX11_areUnlike_26 : decode cX11_areUnlike 26 = .ok (.isub, 1) := by decide +kernel
theorem dX11_areUnlike_27 : decode cX11_areUnlike 27 = .ok (.istore 4, 2) := by decide +kernel
theorem dX11_areUnlike_29 : decode cX11_areUnlike 29 = .ok (.aload_n 0, 1) := by decide +kernel
theorem dX11_areUnlike_30 : decode cX11_areUnlike 30 = .ok (.iload_n 1, 1) := by decide +kernel
theorem dX11_areUnlike_31 : decode cX11_areUnlike 31 = .ok (.iconst 3, 1) := by decide +kernel
theorem dX11_areUnlike_32 : decode cX11_areUnlike 32 = .ok (.invokevirtual 88, 3) := by decide +kernel
theorem dX11_areUnlike_35 : decode cX11_areUnlike 35 = .ok (.iconst 5, 1) := by decide +kernel
theorem dX11_areUnlike_36 : decode cX11_areUnlike 36 = .ok (.if_icmp .eq 34, 3) := by decide +kernel
theorem dX11_areUnlike_39 : decode cX11_areUnlike 39 = .ok (.aload_n 0, 1) := by decide +kernel
theorem dX11_areUnlike_40 : decode cX11_areUnlike 40 = .ok (.iload_n 2, 1) := by decide +kernel
theorem dX11_areUnlike_41 : decode cX11_areUnlike 41 = .ok (.iconst 3, 1) := by decide +kernel
theorem dX11_areUnlike_42 : decode cX11_areUnlike 42 = .ok (.invokevirtual 88, 3) := by decide +kernel
theorem dX11_areUnlike_45 : decode cX11_areUnlike 45 = .ok (.iconst 5, 1) := by decide +kernel
theorem dX11_areUnlike_46 : decode cX11_areUnlike 46 = .ok (.if_icmp .eq 24, 3) := by decide +kernel
theorem dX11_areUnlike_49 : decode cX11_areUnlike 49 = .ok (.iload 4, 2) := by decide +kernel
theorem dX11_areUnlike_51 : decode cX11_areUnlike 51 = .ok (.ifCond .ge 9, 3) := by decide +kernel
theorem dX11_areUnlike_54 : decode cX11_areUnlike 54 = .ok (.iload 4, 2) := by decide +kernel
theorem dX11_areUnlike_56 : decode cX11_areUnlike 56 = .ok (.ineg, 1) := by decide +kernel
theorem dX11_areUnlike_57 : decode cX11_areUnlike 57 = .ok (.goto 5, 3) := by decide +kernel
theorem dX11_areUnlike_60 : decode cX11_areUnlike 60 = .ok (.iload 4, 2) := by decide +kernel
theorem dX11_areUnlike_62 : decode cX11_areUnlike 62 = .ok (.aload_n 0, 1) := by decide +kernel
theorem dX11_areUnlike_63 : decode cX11_areUnlike 63 = .ok (.iconst 0, 1) := by decide +kernel
theorem dX11_areUnlike_64 : decode cX11_areUnlike 64 = .ok (.invokevirtual 85, 3) := by decide +kernel
theorem dX11_areUnlike_67 : decode cX11_areUnlike 67 = .ok (.if_icmp .lt 7, 3) := by decide +kernel
theorem dX11_areUnlike_70 : decode cX11_areUnlike 70 = .ok (.iconst 1, 1) := by decide +kernel
theorem dX11_areUnlike_71 : decode cX11_areUnlike 71 = .ok (.goto 4, 3) := by decide +kernel
theorem dX11_areUnlike_74 : decode cX11_areUnlike 74 = .ok (.iconst 0, 1) := by decide +kernel
theorem dX11_areUnlike_75 : decode cX11_areUnlike 75 = .ok (.ireturn, 1) := by decide +kernel
set_option maxRecDepth 20000 in
theorem ggX11_timeOfSet_X11_porters : GoodIn wsX11_timeOfSet wsX11_porters := goodIn_r _ [5, 6, 15, 16, 17, 18, 19, 20, 21, 22, 23, 24, 25, 26, 27, 28, 29, 30, 31, 32, 33, 34, 35, 36, 37, 38, 39] (by decide +kernel) (by decide +kernel)
set_option maxRecDepth 20000 in
theorem gX11_timeOfSet_X11_porters : GoodIn wsX11_timeOfSet (wsV RX11 53 RX11 yX11_porters wsX11_porters) := goodIn_app (goodIn_of _ (by decide +kernel)) ggX11_timeOfSet_X11_porters
set_option maxRecDepth 20000 in
theorem ggX11_timeOfSet_X11_timeOf : GoodIn wsX11_timeOfSet wsX11_timeOf := goodIn_r _ [10, 11, 12, 13, 4, 14, 6, 15, 16, 17, 18, 19, 20, 21, 22, 23, 24, 25, 26, 27, 28, 29, 30, 31, 32, 33, 34, 35, 36, 37, 38, 39] (by decide +kernel) (by decide +kernel)
set_option maxRecDepth 20000 in
theorem gX11_timeOfSet_X11_timeOf : GoodIn wsX11_timeOfSet (wsV RX11 101 RX11 yX11_timeOf wsX11_timeOf) := goodIn_app (goodIn_of _ (by decide +kernel)) ggX11_timeOfSet_X11_timeOf
theorem dX11_timeOfSet_0 : decode cX11_timeOfSet 0 = .ok (.iconst 0, 1) := by decide +kernel
theorem dX11_timeOfSet_1 : decode cX11_timeOfSet 1 = .ok (.istore_n 2, 1) := by decide +kernel
theorem dX11_timeOfSet_2 : decode cX11_timeOfSet 2 = .ok (.iconst 0, 1) := by decide +kernel
theorem dX11_timeOfSet_3 : decode cX11_timeOfSet 3 = .ok (.istore_n 3, 1) := by decide +kernel
theorem dX11_timeOfSet_4 : decode cX11_timeOfSet 4 = .ok (.iload_n 3, 1) := by decide +kernel
theorem dX11_timeOfSet_5 : decode cX11_timeOfSet 5 = .ok (.aload_n 0, 1) := by decide +kernel
theorem dX11_timeOfSet_6 : decode cX11_timeOfSet 6 = .ok (.invokevirtual 53, 3) := by decide +kernel
theorem dX11_timeOfSet_9 : decode cX11_timeOfSet 9 = .ok (.if_icmp .ge 42, 3) := by decide +kernel
theorem dX11_timeOfSet_12 : decode cX11_timeOfSet 12 = .ok (.iload_n 1, 1) := by decide +kernel
theorem dX11_timeOfSet_13 : decode cX11_timeOfSet 13 = .ok (.iload_n 3, 1) := by decide +kernel
theorem dX11_timeOfSet_14 : decode cX11_timeOfSet 14 = .ok (.ishr, 1) := by decide +kernel
theorem dX11_timeOfSet_15 : decode cX11_timeOfSet 15 = .ok (.iconst 1, 1) := by decide +kernel
theorem dX11_timeOfSet_16 : decode cX11_timeOfSet 16 = .ok (.iand, 1) := by decide +kernel
theorem dX11_timeOfSet_17 : decode cX11_timeOfSet 17 = .ok (.iconst 1, 1) := by decide +kernel
theorem dX11_timeOfSet_18 : decode cX11_timeOfSet 18 = .ok (.if_icmp .ne 11, 3) := by decide +kernel
theorem dX11_timeOfSet_21 : decode cX11_timeOfSet 21 = .ok (.aload_n 0, 1) := by decide +kernel
theorem dX11_timeOfSet_22 : decode cX11_timeOfSet 22 = .ok (.iload_n 3, 1) := by decide +kernel
theorem dX11_timeOfSet_23 : decode cX11_timeOfSet 23 = .ok (.invokevirtual 101, 3) := by decide +kernel
theorem dX11_timeOfSet_26 : decode cX11_timeOfSet 26 = .ok (.goto 4, 3) := by decide +kernel
theorem dX11_timeOfSet_29 : decode cX11_timeOfSet 29 = .ok (.iconst 0, 1) := by decide +kernel
theorem dX11_timeOfSet_30 : decode cX11_timeOfSet 30 = .ok (.istore 4, 2) := by decide +kernel
theorem dX11_timeOfSet_32 : decode cX11_timeOfSet 32 = .ok (.iload 4, 2) := by decide +kernel
theorem dX11_timeOfSet_34 : decode cX11_timeOfSet 34 = .ok (.iload_n 2, 1) := by decide +kernel
theorem dX11_timeOfSet_35 : decode cX11_timeOfSet 35 = .ok (.if_icmp .le 8, 3) := by decide +kernel
theorem dX11_timeOfSet_38 : decode cX11_timeOfSet 38 = .ok (.iload 4, 2) := by decide +kernel
theorem dX11_timeOfSet_40 : decode cX11_timeOfSet 40 = .ok (.goto 4, 3) := by decide +kernel
theorem dX11_timeOfSet_43 : decode cX11_timeOfSet 43 = .ok (.iload_n 2, 1) := by decide +kernel
theorem dX11_timeOfSet_44 : decode cX11_timeOfSet 44 = .ok (.istore_n 2, 1) := by decide +kernel
theorem dX11_timeOfSet_45 : decode cX11_timeOfSet 45 = .ok (.iinc 3 1, 3) := by decide +kernel
theorem dX11_timeOfSet_48 : decode cX11_timeOfSet 48 = .ok (.goto (-44), 3) := by decide +kernel
theorem dX11_timeOfSet_51 : decode cX11_timeOfSet 51 = .ok (.iload_n 2, 1) := by decide +kernel
theorem dX11_timeOfSet_52 : decode cX11_timeOfSet 52 = .ok (.ireturn, 1) := by decide +kernel
set_option maxRecDepth 20000 in
theorem ggX11_whyNot_X11_number : GoodIn wsX11_whyNot wsX11_number := goodIn_r _ [5, 6, 46, 47, 48, 49, 50, 51, 52, 53, 54, 55, 56, 57, 58, 59, 60, 61, 62, 63, 64, 65, 66, 67, 68, 69, 70] (by decide +kernel) (by decide +kernel)
set_option maxRecDepth 20000 in
theorem gX11_whyNot_X11_number : GoodIn wsX11_whyNot (wsV RX11 85 RX11 yX11_number wsX11_number) := goodIn_app (goodIn_of _ (by decide +kernel)) ggX11_whyNot_X11_number
set_option maxRecDepth 20000 in
theorem ggX11_whyNot_X11_manyIn : GoodIn wsX11_whyNot wsX11_manyIn := goodIn_r _ [9] (by decide +kernel) (by decide +kernel)
set_option maxRecDepth 20000 in
theorem gX11_whyNot_X11_manyIn : GoodIn wsX11_whyNot (va_wsS RX11 108 yX11_manyIn wsX11_manyIn) := goodIn_app (goodIn_of _ (by decide +kernel)) ggX11_whyNot_X11_manyIn
set_option maxRecDepth 20000 in
theorem ggX11_whyNot_X11_anyNever : GoodIn wsX11_whyNot wsX11_anyNever := goodIn_r _ [13, 14, 15, 16, 4, 17, 6, 18, 19, 20, 21, 22, 23, 24, 25, 46, 47, 48, 49, 50, 51, 52, 53, 54, 55, 56, 57, 58, 59, 60, 61, 62, 63, 64, 65, 66, 67, 68, 69, 70] (by decide +kernel) (by decide +kernel)
set_option maxRecDepth 20000 in
theorem gX11_whyNot_X11_anyNever : GoodIn wsX11_whyNot (wsV RX11 111 RX11 yX11_anyNever wsX11_anyNever) := goodIn_app (goodIn_of _ (by decide +kernel)) ggX11_whyNot_X11_anyNever
set_option maxRecDepth 20000 in
theorem ggX11_whyNot_X11_firstIn : GoodIn wsX11_whyNot wsX11_firstIn := goodIn_r _ [28] (by decide +kernel) (by decide +kernel)
set_option maxRecDepth 20000 in
theorem gX11_whyNot_X11_firstIn : GoodIn wsX11_whyNot (va_wsS RX11 115 yX11_firstIn wsX11_firstIn) := goodIn_app (goodIn_of _ (by decide +kernel)) ggX11_whyNot_X11_firstIn
set_option maxRecDepth 20000 in
theorem ggX11_whyNot_X11_areUnlike : GoodIn wsX11_whyNot wsX11_areUnlike := goodIn_r _ [32, 33, 34, 35, 36, 4, 37, 22, 23, 24, 25, 6, 1, 2, 3, 5, 46, 47, 48, 49, 50, 51, 52, 53, 54, 55, 56, 57, 58, 59, 60, 61, 62, 63, 64, 65, 66, 67, 68, 69, 70] (by decide +kernel) (by decide +kernel)
set_option maxRecDepth 20000 in
theorem gX11_whyNot_X11_areUnlike : GoodIn wsX11_whyNot (wsV RX11 118 RX11 yX11_areUnlike wsX11_areUnlike) := goodIn_app (goodIn_of _ (by decide +kernel)) ggX11_whyNot_X11_areUnlike
set_option maxRecDepth 20000 in
theorem ggX11_whyNot_X11_timeOfSet : GoodIn wsX11_whyNot wsX11_timeOfSet := goodIn_r _ [41, 14, 15, 16, 4, 17, 6, 42, 43, 44, 45, 22, 23, 24, 25, 46, 47, 48, 49, 50, 51, 52, 53, 54, 55, 56, 57, 58, 59, 60, 61, 62, 63, 64, 65, 66, 67, 68, 69, 70] (by decide +kernel) (by decide +kernel)
set_option maxRecDepth 20000 in
theorem gX11_whyNot_X11_timeOfSet : GoodIn wsX11_whyNot (wsV RX11 122 RX11 yX11_timeOfSet wsX11_timeOfSet) := goodIn_app (goodIn_of _ (by decide +kernel)) ggX11_whyNot_X11_timeOfSet
theorem dX11_whyNot_0 : decode cX11_whyNot 0 = .ok (.iload_n 2, 1) := by decide +kernel
theorem dX11_whyNot_1 : decode cX11_whyNot 1 = .ok (.aload_n 0, 1) := by decide +kernel
theorem dX11_whyNot_2 : decode cX11_whyNot 2 = .ok (.iconst 3, 1) := by decide +kernel
theorem dX11_whyNot_3 : decode cX11_whyNot 3 = .ok (.invokevirtual 85, 3) := by decide +kernel
theorem dX11_whyNot_6 : decode cX11_whyNot 6 = .ok (.if_icmp .lt 7, 3) := by decide +kernel
theorem dX11_whyNot_9 : decode cX11_whyNot 9 = .ok (.iconst 1, 1) := by decide +kernel
theorem dX11_whyNot_10 : decode cX11_whyNot 10 = .ok (.goto 4, 3) := by decide +kernel
theorem dX11_whyNot_13 : decode cX11_whyNot 13 = .ok (.iconst 0, 1) := by decide +kernel
theorem dX11_whyNot_14 : decode cX11_whyNot 14 = .ok (.istore_n 3, 1) := by decide +kernel
theorem dX11_whyNot_15 : decode cX11_whyNot 15 = .ok (.iload_n 1, 1) := by decide +kernel
theorem dX11_whyNot_16 : decode cX11_whyNot 16 = .ok (.invokestatic 108, 3) := by decide +kernel
theorem dX11_whyNot_19 : decode cX11_whyNot 19 = .ok (.istore 4, 2) := by decide +kernel
theorem dX11_whyNot_21 : decode cX11_whyNot 21 = .ok (.iload 4, 2) := by decide +kernel
theorem dX11_whyNot_23 : decode cX11_whyNot 23 = .ok (.iload_n 3, 1) := by decide +kernel
theorem dX11_whyNot_24 : decode cX11_whyNot 24 = .ok (.ifCond .eq 7, 3) := by decide +kernel
theorem dX11_whyNot_27 : decode cX11_whyNot 27 = .ok (.iconst 1, 1) := by decide +kernel
theorem dX11_whyNot_28 : decode cX11_whyNot 28 = .ok (.goto 4, 3) := by decide +kernel
theorem dX11_whyNot_31 : decode cX11_whyNot 31 = .ok (.iconst 2, 1) := by decide +kernel
theorem dX11_whyNot_32 : decode cX11_whyNot 32 = .ok (.if_icmp .eq 5, 3) := by decide +kernel
theorem dX11_whyNot_35 : decode cX11_whyNot 35 = .ok (.iconst 3, 1) := by decide +kernel
theorem dX11_whyNot_36 : decode cX11_whyNot 36 = .ok (.ireturn, 1) := by decide +kernel
theorem dX11_whyNot_37 : decode cX11_whyNot 37 = .ok (.aload_n 0, 1) := by decide +kernel
theorem dX11_whyNot_38 : decode cX11_whyNot 38 = .ok (.iload_n 1, 1) := by decide +kernel
theorem dX11_whyNot_39 : decode cX11_whyNot 39 = .ok (.iload_n 3, 1) := by decide +kernel
theorem dX11_whyNot_40 : decode cX11_whyNot 40 = .ok (.invokevirtual 111, 3) := by decide +kernel
theorem dX11_whyNot_43 : decode cX11_whyNot 43 = .ok (.ifCond .eq 5, 3) := by decide +kernel
theorem dX11_whyNot_46 : decode cX11_whyNot 46 = .ok (.iconst 4, 1) := by decide +kernel
theorem dX11_whyNot_47 : decode cX11_whyNot 47 = .ok (.ireturn, 1) := by decide +kernel
theorem dX11_whyNot_48 : decode cX11_whyNot 48 = .ok (.iload_n 1, 1) := by decide +kernel
theorem dX11_whyNot_49 : decode cX11_whyNot 49 = .ok (.invokestatic 115, 3) := by decide +kernel
theorem dX11_whyNot_52 : decode cX11_whyNot 52 = .ok (.istore 5, 2) := by decide +kernel
theorem dX11_whyNot_54 : decode cX11_whyNot 54 = .ok (.iload 4, 2) := by decide +kernel
theorem dX11_whyNot_56 : decode cX11_whyNot 56 = .ok (.iconst 2, 1) := by decide +kernel
theorem dX11_whyNot_57 : decode cX11_whyNot 57 = .ok (.if_icmp .ne 26, 3) := by decide +kernel
theorem dX11_whyNot_60 : decode cX11_whyNot 60 = .ok (.aload_n 0, 1) := by decide +kernel
theorem dX11_whyNot_61 : decode cX11_whyNot 61 = .ok (.iload 5, 2) := by decide +kernel
theorem dX11_whyNot_63 : decode cX11_whyNot 63 = .ok (.iload_n 1, 1) := by decide +kernel
theorem dX11_whyNot_64 : decode cX11_whyNot 64 = .ok (.iconst 1, 1) := by decide +kernel
theorem dX11_whyNot_65 : decode cX11_whyNot 65 = .ok (.iload 5, 2) := by decide +kernel
theorem dX11_whyNot_67 : decode cX11_whyNot 67 = .ok (.ishl, 1) := by decide +kernel
theorem dX11_whyNot_68 : decode cX11_whyNot 68 = .ok (.iconst (-1), 1) := by decide +kernel
theorem dX11_whyNot_69 : decode cX11_whyNot 69 = .ok (.ixor, 1) := by decide +kernel
theorem dX11_whyNot_70 : decode cX11_whyNot 70 = .ok (.iand, 1) := by decide +kernel
theorem dX11_whyNot_71 : decode cX11_whyNot 71 = .ok (.invokestatic 115, 3) := by decide +kernel
theorem dX11_whyNot_74 : decode cX11_whyNot 74 = .ok (.iload_n 2, 1) := by decide +kernel
theorem dX11_whyNot_75 : decode cX11_whyNot 75 = .ok (.invokevirtual 118, 3) := by decide +kernel
theorem dX11_whyNot_78 : decode cX11_whyNot 78 = .ok (.ifCond .ne 5, 3) := by decide +kernel
theorem dX11_whyNot_81 : decode cX11_whyNot 81 = .ok (.iconst 5, 1) := by decide +kernel
theorem dX11_whyNot_82 : decode cX11_whyNot 82 = .ok (.ireturn, 1) := by decide +kernel
theorem dX11_whyNot_83 : decode cX11_whyNot 83 = .ok (.iload_n 2, 1) := by decide +kernel
theorem dX11_whyNot_84 : decode cX11_whyNot 84 = .ok (.aload_n 0, 1) := by decide +kernel
theorem dX11_whyNot_85 : decode cX11_whyNot 85 = .ok (.iload_n 1, 1) := by decide +kernel
theorem dX11_whyNot_86 : decode cX11_whyNot 86 = .ok (.invokevirtual 122, 3) := by decide +kernel
theorem dX11_whyNot_89 : decode cX11_whyNot 89 = .ok (.iadd, 1) := by decide +kernel
theorem dX11_whyNot_90 : decode cX11_whyNot 90 = .ok (.sipush 240, 3) := by decide +kernel
theorem dX11_whyNot_93 : decode cX11_whyNot 93 = .ok (.if_icmp .le 8, 3) := by decide +kernel
theorem dX11_whyNot_96 : decode cX11_whyNot 96 = .ok (.bipush 6, 2) := by decide +kernel
theorem dX11_whyNot_98 : decode cX11_whyNot 98 = .ok (.goto 4, 3) := by decide +kernel
theorem dX11_whyNot_101 : decode cX11_whyNot 101 = .ok (.iconst 0, 1) := by decide +kernel
theorem dX11_whyNot_102 : decode cX11_whyNot 102 = .ok (.ireturn, 1) := by decide +kernel
theorem dX11_carryNothing_0 : decode cX11_carryNothing 0 = .ok (.iconst 0, 1) := by decide +kernel
theorem dX11_carryNothing_1 : decode cX11_carryNothing 1 = .ok (.istore_n 1, 1) := by decide +kernel
theorem dX11_carryNothing_2 : decode cX11_carryNothing 2 = .ok (.iload_n 1, 1) := by decide +kernel
theorem dX11_carryNothing_3 : decode cX11_carryNothing 3 = .ok (.bipush 6, 2) := by decide +kernel
theorem dX11_carryNothing_5 : decode cX11_carryNothing 5 = .ok (.if_icmp .ge 16, 3) := by decide +kernel
theorem dX11_carryNothing_8 : decode cX11_carryNothing 8 = .ok (.aload_n 0, 1) := by decide +kernel
theorem dX11_carryNothing_9 : decode cX11_carryNothing 9 = .ok (.getfield 23, 3) := by decide +kernel
theorem dX11_carryNothing_12 : decode cX11_carryNothing 12 = .ok (.iload_n 1, 1) := by decide +kernel
theorem dX11_carryNothing_13 : decode cX11_carryNothing 13 = .ok (.iconst 0, 1) := by decide +kernel
theorem dX11_carryNothing_14 : decode cX11_carryNothing 14 = .ok (.iastore, 1) := by decide +kernel
theorem dX11_carryNothing_15 : decode cX11_carryNothing 15 = .ok (.iinc 1 1, 3) := by decide +kernel
theorem dX11_carryNothing_18 : decode cX11_carryNothing 18 = .ok (.goto (-16), 3) := by decide +kernel
theorem dX11_carryNothing_21 : decode cX11_carryNothing 21 = .ok (.return_, 1) := by decide +kernel
set_option maxRecDepth 20000 in
theorem ggX11_why_X11_all : GoodIn wsX11_why wsX11_all := goodIn_r _ [6, 7, 8, 9, 5, 10, 11, 67, 68, 69, 70, 71, 72, 73, 74, 75, 76, 77, 78, 79, 80, 81, 82, 83, 84, 85, 86, 87, 88, 89, 90, 91] (by decide +kernel) (by decide +kernel)
set_option maxRecDepth 20000 in
theorem gX11_why_X11_all : GoodIn wsX11_why (wsV RX11 125 RX11 yX11_all wsX11_all) := goodIn_app (goodIn_of _ (by decide +kernel)) ggX11_why_X11_all
set_option maxRecDepth 20000 in
theorem ggX11_why_X11_in : GoodIn wsX11_why wsX11_in := goodIn_r _ [14] (by decide +kernel) (by decide +kernel)
set_option maxRecDepth 20000 in
theorem gX11_why_X11_in : GoodIn wsX11_why (va_wsS RX11 57 yX11_in wsX11_in) := goodIn_app (goodIn_of _ (by decide +kernel)) ggX11_why_X11_in
set_option maxRecDepth 20000 in
theorem ggX11_why_X11_bad : GoodIn wsX11_why wsX11_bad := goodIn_r _ [18, 19, 67, 68, 69, 70, 71, 72, 73, 74, 75, 76, 77, 78, 79, 80, 81, 82, 83, 84, 85, 86, 87, 88, 89, 90, 91] (by decide +kernel) (by decide +kernel)
set_option maxRecDepth 20000 in
theorem gX11_why_X11_bad : GoodIn wsX11_why (wsV RX11 73 RX11 yX11_bad wsX11_bad) := goodIn_app (goodIn_of _ (by decide +kernel)) ggX11_why_X11_bad
set_option maxRecDepth 20000 in
theorem ggX11_why_X11_carryNothing : GoodIn wsX11_why wsX11_carryNothing := goodIn_r _ [23, 24, 67, 68, 69, 70, 71, 72, 73, 74, 75, 76, 77, 78, 79, 80, 81, 82, 83, 84, 85, 86, 87, 88, 89, 90, 91] (by decide +kernel) (by decide +kernel)
set_option maxRecDepth 20000 in
theorem gX11_why_X11_carryNothing : GoodIn wsX11_why (wsV RX11 128 RX11 yX11_carryNothing wsX11_carryNothing) := goodIn_app (goodIn_of _ (by decide +kernel)) ggX11_why_X11_carryNothing
set_option maxRecDepth 20000 in
theorem ggX11_why_X11_whyNot : GoodIn wsX11_why wsX11_whyNot := goodIn_r _ [28, 29, 30, 31, 5, 32, 11, 33, 34, 35, 36, 37, 38, 39, 7, 8, 9, 10, 40, 41, 42, 43, 44, 45, 46, 47, 48, 49, 50, 51, 52, 53, 54, 24, 55, 56, 57, 58, 59, 60, 61, 62, 63, 64, 65, 66, 67, 68, 69, 70, 71, 72, 73, 74, 75, 76, 77, 78, 79, 80, 81, 82, 83, 84, 85, 86, 87, 88, 89, 90, 91] (by decide +kernel) (by decide +kernel)
set_option maxRecDepth 20000 in
theorem gX11_why_X11_whyNot : GoodIn wsX11_why (wsV RX11 131 RX11 yX11_whyNot wsX11_whyNot) := goodIn_app (goodIn_of _ (by decide +kernel)) ggX11_why_X11_whyNot
theorem dX11_why_0 : decode cX11_why 0 = .ok (.iload_n 1, 1) := by decide +kernel
theorem dX11_why_1 : decode cX11_why 1 = .ok (.i2l, 1) := by decide +kernel
theorem dX11_why_2 : decode cX11_why 2 = .ok (.lconst 1, 1) := by decide +kernel
theorem dX11_why_3 : decode cX11_why 3 = .ok (.aload_n 0, 1) := by decide +kernel
theorem dX11_why_4 : decode cX11_why 4 = .ok (.invokevirtual 125, 3) := by decide +kernel
theorem dX11_why_7 : decode cX11_why 7 = .ok (.i2l, 1) := by decide +kernel
theorem dX11_why_8 : decode cX11_why 8 = .ok (.invokestatic 57, 3) := by decide +kernel
theorem dX11_why_11 : decode cX11_why 11 = .ok (.ifCond .eq 15, 3) := by decide +kernel
theorem dX11_why_14 : decode cX11_why 14 = .ok (.iload_n 2, 1) := by decide +kernel
theorem dX11_why_15 : decode cX11_why 15 = .ok (.i2l, 1) := by decide +kernel
theorem dX11_why_16 : decode cX11_why 16 = .ok (.lconst 0, 1) := by decide +kernel
theorem dX11_why_17 : decode cX11_why 17 = .ok (.ldc2_w 96, 3) := by decide +kernel
theorem dX11_why_20 : decode cX11_why 20 = .ok (.invokestatic 57, 3) := by decide +kernel
theorem dX11_why_23 : decode cX11_why 23 = .ok (.ifCond .ne 10, 3) := by decide +kernel
theorem dX11_why_26 : decode cX11_why 26 = .ok (.aload_n 0, 1) := by decide +kernel
theorem dX11_why_27 : decode cX11_why 27 = .ok (.bipush (-2), 2) := by decide +kernel
theorem dX11_why_29 : decode cX11_why 29 = .ok (.invokevirtual 73, 3) := by decide +kernel
theorem dX11_why_32 : decode cX11_why 32 = .ok (.ireturn, 1) := by decide +kernel
theorem dX11_why_33 : decode cX11_why 33 = .ok (.aload_n 0, 1) := by decide +kernel
theorem dX11_why_34 : decode cX11_why 34 = .ok (.invokevirtual 128, 3) := by decide +kernel
theorem dX11_why_37 : decode cX11_why 37 = .ok (.aload_n 0, 1) := by decide +kernel
theorem dX11_why_38 : decode cX11_why 38 = .ok (.iload_n 1, 1) := by decide +kernel
theorem dX11_why_39 : decode cX11_why 39 = .ok (.iload_n 2, 1) := by decide +kernel
theorem dX11_why_40 : decode cX11_why 40 = .ok (.invokevirtual 131, 3) := by decide +kernel
theorem dX11_why_43 : decode cX11_why 43 = .ok (.ireturn, 1) := by decide +kernel
theorem dX11_textLong_0 : decode cX11_textLong 0 = .ok (.aload_n 0, 1) := by decide +kernel
theorem dX11_textLong_1 : decode cX11_textLong 1 = .ok (.getfield 7, 3) := by decide +kernel
theorem dX11_textLong_4 : decode cX11_textLong 4 = .ok (.bipush 73, 2) := by decide +kernel
theorem dX11_textLong_6 : decode cX11_textLong 6 = .ok (.iaload, 1) := by decide +kernel
theorem dX11_textLong_7 : decode cX11_textLong 7 = .ok (.ireturn, 1) := by decide +kernel
theorem dX11_byteAt_0 : decode cX11_byteAt 0 = .ok (.aload_n 0, 1) := by decide +kernel
theorem dX11_byteAt_1 : decode cX11_byteAt 1 = .ok (.getfield 7, 3) := by decide +kernel
theorem dX11_byteAt_4 : decode cX11_byteAt 4 = .ok (.bipush 74, 2) := by decide +kernel
theorem dX11_byteAt_6 : decode cX11_byteAt 6 = .ok (.iload_n 1, 1) := by decide +kernel
theorem dX11_byteAt_7 : decode cX11_byteAt 7 = .ok (.iadd, 1) := by decide +kernel
theorem dX11_byteAt_8 : decode cX11_byteAt 8 = .ok (.iaload, 1) := by decide +kernel
theorem dX11_byteAt_9 : decode cX11_byteAt 9 = .ok (.ireturn, 1) := by decide +kernel
set_option maxRecDepth 20000 in
theorem ggX11_type_X11_in : GoodIn wsX11_type wsX11_in := goodIn_r _ [7] (by decide +kernel) (by decide +kernel)
set_option maxRecDepth 20000 in
theorem gX11_type_X11_in : GoodIn wsX11_type (va_wsS RX11 57 yX11_in wsX11_in) := goodIn_app (goodIn_of _ (by decide +kernel)) ggX11_type_X11_in
set_option maxRecDepth 20000 in
theorem ggX11_type_X11_bad : GoodIn wsX11_type wsX11_bad := goodIn_r _ [11, 12, 21, 22, 23, 24, 25, 26, 27, 28, 29, 30, 31, 32, 33, 34, 35, 36, 37, 38, 39, 40, 41, 42, 43, 44, 45] (by decide +kernel) (by decide +kernel)
set_option maxRecDepth 20000 in
theorem gX11_type_X11_bad : GoodIn wsX11_type (wsV RX11 73 RX11 yX11_bad wsX11_bad) := goodIn_app (goodIn_of _ (by decide +kernel)) ggX11_type_X11_bad
set_option maxRecDepth 20000 in
theorem ggX11_type_X11_textLong : GoodIn wsX11_type wsX11_textLong := goodIn_r _ [16, 2, 21, 22, 23, 24, 25, 26, 27, 28, 29, 30, 31, 32, 33, 34, 35, 36, 37, 38, 39, 40, 41, 42, 43, 44, 45] (by decide +kernel) (by decide +kernel)
set_option maxRecDepth 20000 in
theorem gX11_type_X11_textLong : GoodIn wsX11_type (wsV RX11 136 RX11 yX11_textLong wsX11_textLong) := goodIn_app (goodIn_of _ (by decide +kernel)) ggX11_type_X11_textLong
set_option maxRecDepth 20000 in
theorem ggX11_type_X11_full : GoodIn wsX11_type wsX11_full := goodIn_r _ [20, 12, 21, 22, 23, 24, 25, 26, 27, 28, 29, 30, 31, 32, 33, 34, 35, 36, 37, 38, 39, 40, 41, 42, 43, 44, 45] (by decide +kernel) (by decide +kernel)
set_option maxRecDepth 20000 in
theorem gX11_type_X11_full : GoodIn wsX11_type (wsV RX11 77 RX11 yX11_full wsX11_full) := goodIn_app (goodIn_of _ (by decide +kernel)) ggX11_type_X11_full
theorem dX11_type_0 : decode cX11_type 0 = .ok (.iload_n 3, 1) := by decide +kernel
theorem dX11_type_1 : decode cX11_type 1 = .ok (.i2l, 1) := by decide +kernel
theorem dX11_type_2 : decode cX11_type 2 = .ok (.lconst 1, 1) := by decide +kernel
theorem dX11_type_3 : decode cX11_type 3 = .ok (.ldc2_w 134, 3) := by decide +kernel
theorem dX11_type_6 : decode cX11_type 6 = .ok (.invokestatic 57, 3) := by decide +kernel
theorem dX11_type_9 : decode cX11_type 9 = .ok (.ifCond .ne 10, 3) := by decide +kernel
theorem dX11_type_12 : decode cX11_type 12 = .ok (.aload_n 0, 1) := by decide +kernel
theorem dX11_type_13 : decode cX11_type 13 = .ok (.bipush (-2), 2) := by decide +kernel
theorem dX11_type_15 : decode cX11_type 15 = .ok (.invokevirtual 73, 3) := by decide +kernel
theorem dX11_type_18 : decode cX11_type 18 = .ok (.ireturn, 1) := by decide +kernel
theorem dX11_type_19 : decode cX11_type 19 = .ok (.aload_n 0, 1) := by decide +kernel
theorem dX11_type_20 : decode cX11_type 20 = .ok (.invokevirtual 136, 3) := by decide +kernel
theorem dX11_type_23 : decode cX11_type 23 = .ok (.iload_n 3, 1) := by decide +kernel
theorem dX11_type_24 : decode cX11_type 24 = .ok (.iadd, 1) := by decide +kernel
theorem dX11_type_25 : decode cX11_type 25 = .ok (.sipush 200, 3) := by decide +kernel
theorem dX11_type_28 : decode cX11_type 28 = .ok (.if_icmp .le 8, 3) := by decide +kernel
theorem dX11_type_31 : decode cX11_type 31 = .ok (.aload_n 0, 1) := by decide +kernel
theorem dX11_type_32 : decode cX11_type 32 = .ok (.invokevirtual 77, 3) := by decide +kernel
theorem dX11_type_35 : decode cX11_type 35 = .ok (.ireturn, 1) := by decide +kernel
theorem dX11_type_36 : decode cX11_type 36 = .ok (.iload_n 3, 1) := by decide +kernel
theorem dX11_type_37 : decode cX11_type 37 = .ok (.iconst 1, 1) := by decide +kernel
theorem dX11_type_38 : decode cX11_type 38 = .ok (.isub, 1) := by decide +kernel
theorem dX11_type_39 : decode cX11_type 39 = .ok (.istore 4, 2) := by decide +kernel
theorem dX11_type_41 : decode cX11_type 41 = .ok (.iload 4, 2) := by decide +kernel
theorem dX11_type_43 : decode cX11_type 43 = .ok (.ifCond .lt 44, 3) := by decide +kernel
theorem dX11_type_46 : decode cX11_type 46 = .ok (.aload_n 0, 1) := by decide +kernel
theorem dX11_type_47 : decode cX11_type 47 = .ok (.getfield 7, 3) := by decide +kernel
theorem dX11_type_50 : decode cX11_type 50 = .ok (.bipush 74, 2) := by decide +kernel
theorem dX11_type_52 : decode cX11_type 52 = .ok (.aload_n 0, 1) := by decide +kernel
theorem dX11_type_53 : decode cX11_type 53 = .ok (.invokevirtual 136, 3) := by decide +kernel
theorem dX11_type_56 : decode cX11_type 56 = .ok (.iadd, 1) := by decide +kernel
theorem dX11_type_57 : decode cX11_type 57 = .ok (.lload_n 1, 1) := by decide +kernel
theorem dX11_type_58 : decode cX11_type 58 = .ok (.bipush 8, 2) := by decide +kernel
theorem dX11_type_60 : decode cX11_type 60 = .ok (.iload 4, 2) := by decide +kernel
theorem dX11_type_62 : decode cX11_type 62 = .ok (.imul, 1) := by decide +kernel
theorem dX11_type_63 : decode cX11_type 63 = .ok (.lushr, 1) := by decide +kernel
theorem dX11_type_64 : decode cX11_type 64 = .ok (.ldc2_w 139, 3) := by decide +kernel
theorem dX11_type_67 : decode cX11_type 67 = .ok (.land, 1) := by decide +kernel
theorem dX11_type_68 : decode cX11_type 68 = .ok (.l2i, 1) := by decide +kernel
theorem dX11_type_69 : decode cX11_type 69 = .ok (.iastore, 1) := by decide +kernel
theorem dX11_type_70 : decode cX11_type 70 = .ok (.aload_n 0, 1) := by decide +kernel
theorem dX11_type_71 : decode cX11_type 71 = .ok (.getfield 7, 3) := by decide +kernel
theorem dX11_type_74 : decode cX11_type 74 = .ok (.bipush 73, 2) := by decide +kernel
theorem dX11_type_76 : decode cX11_type 76 = .ok (.dup2, 1) := by decide +kernel
theorem dX11_type_77 : decode cX11_type 77 = .ok (.iaload, 1) := by decide +kernel
theorem dX11_type_78 : decode cX11_type 78 = .ok (.iconst 1, 1) := by decide +kernel
theorem dX11_type_79 : decode cX11_type 79 = .ok (.iadd, 1) := by decide +kernel
theorem dX11_type_80 : decode cX11_type 80 = .ok (.iastore, 1) := by decide +kernel
theorem dX11_type_81 : decode cX11_type 81 = .ok (.iinc 4 (-1), 3) := by decide +kernel
theorem dX11_type_84 : decode cX11_type 84 = .ok (.goto (-43), 3) := by decide +kernel
theorem dX11_type_87 : decode cX11_type 87 = .ok (.aload_n 0, 1) := by decide +kernel
theorem dX11_type_88 : decode cX11_type 88 = .ok (.invokevirtual 136, 3) := by decide +kernel
theorem dX11_type_91 : decode cX11_type 91 = .ok (.ireturn, 1) := by decide +kernel
set_option maxRecDepth 20000 in
theorem ggX11_clear_X11_textLong : GoodIn wsX11_clear wsX11_textLong := goodIn_r _ [6, 1, 7, 8, 9, 10, 11, 12, 13, 14, 15, 16, 17, 18, 19, 20, 21, 22, 23, 24, 25, 26, 27, 28, 29, 30, 31] (by decide +kernel) (by decide +kernel)
set_option maxRecDepth 20000 in
theorem gX11_clear_X11_textLong : GoodIn wsX11_clear (wsV RX11 136 RX11 yX11_textLong wsX11_textLong) := goodIn_app (goodIn_of _ (by decide +kernel)) ggX11_clear_X11_textLong
theorem dX11_clear_0 : decode cX11_clear 0 = .ok (.aload_n 0, 1) := by decide +kernel
theorem dX11_clear_1 : decode cX11_clear 1 = .ok (.invokevirtual 136, 3) := by decide +kernel
theorem dX11_clear_4 : decode cX11_clear 4 = .ok (.istore_n 1, 1) := by decide +kernel
theorem dX11_clear_5 : decode cX11_clear 5 = .ok (.aload_n 0, 1) := by decide +kernel
theorem dX11_clear_6 : decode cX11_clear 6 = .ok (.getfield 7, 3) := by decide +kernel
theorem dX11_clear_9 : decode cX11_clear 9 = .ok (.bipush 73, 2) := by decide +kernel
theorem dX11_clear_11 : decode cX11_clear 11 = .ok (.iconst 0, 1) := by decide +kernel
theorem dX11_clear_12 : decode cX11_clear 12 = .ok (.iastore, 1) := by decide +kernel
theorem dX11_clear_13 : decode cX11_clear 13 = .ok (.iload_n 1, 1) := by decide +kernel
theorem dX11_clear_14 : decode cX11_clear 14 = .ok (.ireturn, 1) := by decide +kernel
set_option maxRecDepth 20000 in
theorem ggX11_isSmall_X11_in : GoodIn wsX11_isSmall wsX11_in := goodIn_r _ [6] (by decide +kernel) (by decide +kernel)
set_option maxRecDepth 20000 in
theorem gX11_isSmall_X11_in : GoodIn wsX11_isSmall (va_wsS RX11 57 yX11_in wsX11_in) := goodIn_app (goodIn_of _ (by decide +kernel)) ggX11_isSmall_X11_in
theorem dX11_isSmall_0 : decode cX11_isSmall 0 = .ok (.iload_n 0, 1) := by decide +kernel
theorem dX11_isSmall_1 : decode cX11_isSmall 1 = .ok (.i2l, 1) := by decide +kernel
theorem dX11_isSmall_2 : decode cX11_isSmall 2 = .ok (.ldc2_w 141, 3) := by decide +kernel
theorem dX11_isSmall_5 : decode cX11_isSmall 5 = .ok (.ldc2_w 143, 3) := by decide +kernel
theorem dX11_isSmall_8 : decode cX11_isSmall 8 = .ok (.invokestatic 57, 3) := by decide +kernel
theorem dX11_isSmall_11 : decode cX11_isSmall 11 = .ok (.ireturn, 1) := by decide +kernel
set_option maxRecDepth 20000 in
theorem ggX11_isFigure_X11_in : GoodIn wsX11_isFigure wsX11_in := goodIn_r _ [6] (by decide +kernel) (by decide +kernel)
set_option maxRecDepth 20000 in
theorem gX11_isFigure_X11_in : GoodIn wsX11_isFigure (va_wsS RX11 57 yX11_in wsX11_in) := goodIn_app (goodIn_of _ (by decide +kernel)) ggX11_isFigure_X11_in
theorem dX11_isFigure_0 : decode cX11_isFigure 0 = .ok (.iload_n 0, 1) := by decide +kernel
theorem dX11_isFigure_1 : decode cX11_isFigure 1 = .ok (.i2l, 1) := by decide +kernel
theorem dX11_isFigure_2 : decode cX11_isFigure 2 = .ok (.ldc2_w 145, 3) := by decide +kernel
theorem dX11_isFigure_5 : decode cX11_isFigure 5 = .ok (.ldc2_w 147, 3) := by decide +kernel
theorem dX11_isFigure_8 : decode cX11_isFigure 8 = .ok (.invokestatic 57, 3) := by decide +kernel
theorem dX11_isFigure_11 : decode cX11_isFigure 11 = .ok (.ireturn, 1) := by decide +kernel
set_option maxRecDepth 20000 in
theorem ggX11_look_X11_textLong : GoodIn wsX11_look wsX11_textLong := goodIn_r _ [9, 10, 28, 29, 30, 31, 32, 33, 34, 35, 36, 37, 38, 39, 40, 41, 42, 43, 44, 45, 46, 47, 48, 49, 50, 51, 52] (by decide +kernel) (by decide +kernel)
set_option maxRecDepth 20000 in
theorem gX11_look_X11_textLong : GoodIn wsX11_look (wsV RX11 136 RX11 yX11_textLong wsX11_textLong) := goodIn_app (goodIn_of _ (by decide +kernel)) ggX11_look_X11_textLong
set_option maxRecDepth 20000 in
theorem ggX11_look_X11_byteAt : GoodIn wsX11_look wsX11_byteAt := goodIn_r _ [14, 10, 28, 29, 30, 31, 32, 33, 34, 35, 36, 37, 38, 39, 40, 41, 42, 43, 44, 45, 46, 47, 48, 49, 50, 51, 52] (by decide +kernel) (by decide +kernel)
set_option maxRecDepth 20000 in
theorem gX11_look_X11_byteAt : GoodIn wsX11_look (wsV RX11 153 RX11 yX11_byteAt wsX11_byteAt) := goodIn_app (goodIn_of _ (by decide +kernel)) ggX11_look_X11_byteAt
set_option maxRecDepth 20000 in
theorem ggX11_look_X11_isSmall : GoodIn wsX11_look wsX11_isSmall := goodIn_r _ [17, 18, 19, 20, 21, 8, 22] (by decide +kernel) (by decide +kernel)
set_option maxRecDepth 20000 in
theorem gX11_look_X11_isSmall : GoodIn wsX11_look (va_wsS RX11 165 yX11_isSmall wsX11_isSmall) := goodIn_app (goodIn_of _ (by decide +kernel)) ggX11_look_X11_isSmall
set_option maxRecDepth 20000 in
theorem ggX11_look_X11_isFigure : GoodIn wsX11_look wsX11_isFigure := goodIn_r _ [25, 26, 27, 20, 21, 8, 22] (by decide +kernel) (by decide +kernel)
set_option maxRecDepth 20000 in
theorem gX11_look_X11_isFigure : GoodIn wsX11_look (va_wsS RX11 168 yX11_isFigure wsX11_isFigure) := goodIn_app (goodIn_of _ (by decide +kernel)) ggX11_look_X11_isFigure
theorem dX11_look_0 : decode cX11_look 0 = .ok (.aload_n 0, 1) := by decide +kernel
theorem dX11_look_1 : decode cX11_look 1 = .ok (.iload_n 1, 1) := by decide +kernel
theorem dX11_look_2 : decode cX11_look 2 = .ok (.putfield 149, 3) := by decide +kernel
theorem dX11_look_5 : decode cX11_look 5 = .ok (.aload_n 0, 1) := by decide +kernel
theorem dX11_look_6 : decode cX11_look 6 = .ok (.getfield 149, 3) := by decide +kernel
theorem dX11_look_9 : decode cX11_look 9 = .ok (.aload_n 0, 1) := by decide +kernel
theorem dX11_look_10 : decode cX11_look 10 = .ok (.invokevirtual 136, 3) := by decide +kernel
theorem dX11_look_13 : decode cX11_look 13 = .ok (.if_icmp .ge 29, 3) := by decide +kernel
theorem dX11_look_16 : decode cX11_look 16 = .ok (.aload_n 0, 1) := by decide +kernel
theorem dX11_look_17 : decode cX11_look 17 = .ok (.aload_n 0, 1) := by decide +kernel
theorem dX11_look_18 : decode cX11_look 18 = .ok (.getfield 149, 3) := by decide +kernel
theorem dX11_look_21 : decode cX11_look 21 = .ok (.invokevirtual 153, 3) := by decide +kernel
theorem dX11_look_24 : decode cX11_look 24 = .ok (.bipush 32, 2) := by decide +kernel
theorem dX11_look_26 : decode cX11_look 26 = .ok (.if_icmp .ne 16, 3) := by decide +kernel
theorem dX11_look_29 : decode cX11_look 29 = .ok (.aload_n 0, 1) := by decide +kernel
theorem dX11_look_30 : decode cX11_look 30 = .ok (.dup, 1) := by decide +kernel
theorem dX11_look_31 : decode cX11_look 31 = .ok (.getfield 149, 3) := by decide +kernel
theorem dX11_look_34 : decode cX11_look 34 = .ok (.iconst 1, 1) := by decide +kernel
theorem dX11_look_35 : decode cX11_look 35 = .ok (.iadd, 1) := by decide +kernel
theorem dX11_look_36 : decode cX11_look 36 = .ok (.putfield 149, 3) := by decide +kernel
theorem dX11_look_39 : decode cX11_look 39 = .ok (.goto (-34), 3) := by decide +kernel
theorem dX11_look_42 : decode cX11_look 42 = .ok (.aload_n 0, 1) := by decide +kernel
theorem dX11_look_43 : decode cX11_look 43 = .ok (.iconst 0, 1) := by decide +kernel
theorem dX11_look_44 : decode cX11_look 44 = .ok (.putfield 156, 3) := by decide +kernel
theorem dX11_look_47 : decode cX11_look 47 = .ok (.aload_n 0, 1) := by decide +kernel
theorem dX11_look_48 : decode cX11_look 48 = .ok (.iconst 0, 1) := by decide +kernel
theorem dX11_look_49 : decode cX11_look 49 = .ok (.putfield 159, 3) := by decide +kernel
theorem dX11_look_52 : decode cX11_look 52 = .ok (.aload_n 0, 1) := by decide +kernel
theorem dX11_look_53 : decode cX11_look 53 = .ok (.iconst 0, 1) := by decide +kernel
theorem dX11_look_54 : decode cX11_look 54 = .ok (.putfield 162, 3) := by decide +kernel
theorem dX11_look_57 : decode cX11_look 57 = .ok (.aload_n 0, 1) := by decide +kernel
theorem dX11_look_58 : decode cX11_look 58 = .ok (.getfield 149, 3) := by decide +kernel
theorem dX11_look_61 : decode cX11_look 61 = .ok (.aload_n 0, 1) := by decide +kernel
theorem dX11_look_62 : decode cX11_look 62 = .ok (.invokevirtual 136, 3) := by decide +kernel
theorem dX11_look_65 : decode cX11_look 65 = .ok (.if_icmp .ne 4, 3) := by decide +kernel
theorem dX11_look_68 : decode cX11_look 68 = .ok (.return_, 1) := by decide +kernel
theorem dX11_look_69 : decode cX11_look 69 = .ok (.aload_n 0, 1) := by decide +kernel
theorem dX11_look_70 : decode cX11_look 70 = .ok (.aload_n 0, 1) := by decide +kernel
theorem dX11_look_71 : decode cX11_look 71 = .ok (.getfield 149, 3) := by decide +kernel
theorem dX11_look_74 : decode cX11_look 74 = .ok (.invokevirtual 153, 3) := by decide +kernel
theorem dX11_look_77 : decode cX11_look 77 = .ok (.istore_n 2, 1) := by decide +kernel
theorem dX11_look_78 : decode cX11_look 78 = .ok (.aload_n 0, 1) := by decide +kernel
theorem dX11_look_79 : decode cX11_look 79 = .ok (.iload_n 2, 1) := by decide +kernel
theorem dX11_look_80 : decode cX11_look 80 = .ok (.invokestatic 165, 3) := by decide +kernel
theorem dX11_look_83 : decode cX11_look 83 = .ok (.ifCond .eq 7, 3) := by decide +kernel
theorem dX11_look_86 : decode cX11_look 86 = .ok (.iconst 1, 1) := by decide +kernel
theorem dX11_look_87 : decode cX11_look 87 = .ok (.goto 25, 3) := by decide +kernel
theorem dX11_look_90 : decode cX11_look 90 = .ok (.iload_n 2, 1) := by decide +kernel
theorem dX11_look_91 : decode cX11_look 91 = .ok (.invokestatic 168, 3) := by decide +kernel
theorem dX11_look_94 : decode cX11_look 94 = .ok (.ifCond .eq 7, 3) := by decide +kernel
theorem dX11_look_97 : decode cX11_look 97 = .ok (.iconst 2, 1) := by decide +kernel
theorem dX11_look_98 : decode cX11_look 98 = .ok (.goto 14, 3) := by decide +kernel
theorem dX11_look_101 : decode cX11_look 101 = .ok (.iload_n 2, 1) := by decide +kernel
theorem dX11_look_102 : decode cX11_look 102 = .ok (.bipush 59, 2) := by decide +kernel
theorem dX11_look_104 : decode cX11_look 104 = .ok (.if_icmp .ne 7, 3) := by decide +kernel
theorem dX11_look_107 : decode cX11_look 107 = .ok (.iconst 3, 1) := by decide +kernel
theorem dX11_look_108 : decode cX11_look 108 = .ok (.goto 4, 3) := by decide +kernel
theorem dX11_look_111 : decode cX11_look 111 = .ok (.iconst 4, 1) := by decide +kernel
theorem dX11_look_112 : decode cX11_look 112 = .ok (.putfield 159, 3) := by decide +kernel
theorem dX11_look_115 : decode cX11_look 115 = .ok (.aload_n 0, 1) := by decide +kernel
theorem dX11_look_116 : decode cX11_look 116 = .ok (.iconst 1, 1) := by decide +kernel
theorem dX11_look_117 : decode cX11_look 117 = .ok (.putfield 156, 3) := by decide +kernel
theorem dX11_look_120 : decode cX11_look 120 = .ok (.aload_n 0, 1) := by decide +kernel
theorem dX11_look_121 : decode cX11_look 121 = .ok (.getfield 159, 3) := by decide +kernel
theorem dX11_look_124 : decode cX11_look 124 = .ok (.iconst 3, 1) := by decide +kernel
theorem dX11_look_125 : decode cX11_look 125 = .ok (.if_icmp .ge 7, 3) := by decide +kernel
theorem dX11_look_128 : decode cX11_look 128 = .ok (.iconst 1, 1) := by decide +kernel
theorem dX11_look_129 : decode cX11_look 129 = .ok (.goto 4, 3) := by decide +kernel
theorem dX11_look_132 : decode cX11_look 132 = .ok (.iconst 0, 1) := by decide +kernel
theorem dX11_look_133 : decode cX11_look 133 = .ok (.istore_n 3, 1) := by decide +kernel
theorem dX11_look_134 : decode cX11_look 134 = .ok (.iload_n 3, 1) := by decide +kernel
theorem dX11_look_135 : decode cX11_look 135 = .ok (.ifCond .eq 77, 3) := by decide +kernel
theorem dX11_look_138 : decode cX11_look 138 = .ok (.aload_n 0, 1) := by decide +kernel
theorem dX11_look_139 : decode cX11_look 139 = .ok (.getfield 149, 3) := by decide +kernel
theorem dX11_look_142 : decode cX11_look 142 = .ok (.aload_n 0, 1) := by decide +kernel
theorem dX11_look_143 : decode cX11_look 143 = .ok (.getfield 156, 3) := by decide +kernel
theorem dX11_look_146 : decode cX11_look 146 = .ok (.iadd, 1) := by decide +kernel
theorem dX11_look_147 : decode cX11_look 147 = .ok (.aload_n 0, 1) := by decide +kernel
theorem dX11_look_148 : decode cX11_look 148 = .ok (.invokevirtual 136, 3) := by decide +kernel
theorem dX11_look_151 : decode cX11_look 151 = .ok (.if_icmp .ge 61, 3) := by decide +kernel
theorem dX11_look_154 : decode cX11_look 154 = .ok (.aload_n 0, 1) := by decide +kernel
theorem dX11_look_155 : decode cX11_look 155 = .ok (.aload_n 0, 1) := by decide +kernel
theorem dX11_look_156 : decode cX11_look 156 = .ok (.getfield 149, 3) := by decide +kernel
theorem dX11_look_159 : decode cX11_look 159 = .ok (.aload_n 0, 1) := by decide +kernel
theorem dX11_look_160 : decode cX11_look 160 = .ok (.getfield 156, 3) := by decide +kernel
theorem dX11_look_163 : decode cX11_look 163 = .ok (.iadd, 1) := by decide +kernel
theorem dX11_look_164 : decode cX11_look 164 = .ok (.invokevirtual 153, 3) := by decide +kernel
theorem dX11_look_167 : decode cX11_look 167 = .ok (.istore 4, 2) := by decide +kernel
theorem dX11_look_169 : decode cX11_look 169 = .ok (.aload_n 0, 1) := by decide +kernel
theorem dX11_look_170 : decode cX11_look 170 = .ok (.getfield 159, 3) := by decide +kernel
theorem dX11_look_173 : decode cX11_look 173 = .ok (.iconst 1, 1) := by decide +kernel
theorem dX11_look_174 : decode cX11_look 174 = .ok (.if_icmp .ne 11, 3) := by decide +kernel
theorem dX11_look_177 : decode cX11_look 177 = .ok (.iload 4, 2) := by decide +kernel
theorem dX11_look_179 : decode cX11_look 179 = .ok (.invokestatic 165, 3) := by decide +kernel
theorem dX11_look_182 : decode cX11_look 182 = .ok (.goto 8, 3) := by decide +kernel
theorem dX11_look_185 : decode cX11_look 185 = .ok (.iload 4, 2) := by decide +kernel
theorem dX11_look_187 : decode cX11_look 187 = .ok (.invokestatic 168, 3) := by decide +kernel
theorem dX11_look_190 : decode cX11_look 190 = .ok (.istore_n 3, 1) := by decide +kernel
theorem dX11_look_191 : decode cX11_look 191 = .ok (.aload_n 0, 1) := by decide +kernel
theorem dX11_look_192 : decode cX11_look 192 = .ok (.dup, 1) := by decide +kernel
theorem dX11_look_193 : decode cX11_look 193 = .ok (.getfield 156, 3) := by decide +kernel
theorem dX11_look_196 : decode cX11_look 196 = .ok (.iload_n 3, 1) := by decide +kernel
theorem dX11_look_197 : decode cX11_look 197 = .ok (.ifCond .eq 7, 3) := by decide +kernel
theorem dX11_look_200 : decode cX11_look 200 = .ok (.iconst 1, 1) := by decide +kernel
theorem dX11_look_201 : decode cX11_look 201 = .ok (.goto 4, 3) := by decide +kernel
theorem dX11_look_204 : decode cX11_look 204 = .ok (.iconst 0, 1) := by decide +kernel
theorem dX11_look_205 : decode cX11_look 205 = .ok (.iadd, 1) := by decide +kernel
theorem dX11_look_206 : decode cX11_look 206 = .ok (.putfield 156, 3) := by decide +kernel
theorem dX11_look_209 : decode cX11_look 209 = .ok (.goto (-75), 3) := by decide +kernel
theorem dX11_look_212 : decode cX11_look 212 = .ok (.iconst 0, 1) := by decide +kernel
theorem dX11_look_213 : decode cX11_look 213 = .ok (.istore 4, 2) := by decide +kernel
theorem dX11_look_215 : decode cX11_look 215 = .ok (.iload 4, 2) := by decide +kernel
theorem dX11_look_217 : decode cX11_look 217 = .ok (.aload_n 0, 1) := by decide +kernel
theorem dX11_look_218 : decode cX11_look 218 = .ok (.getfield 156, 3) := by decide +kernel
theorem dX11_look_221 : decode cX11_look 221 = .ok (.if_icmp .ge 49, 3) := by decide +kernel
theorem dX11_look_224 : decode cX11_look 224 = .ok (.iload 4, 2) := by decide +kernel
theorem dX11_look_226 : decode cX11_look 226 = .ok (.iconst 3, 1) := by decide +kernel
theorem dX11_look_227 : decode cX11_look 227 = .ok (.if_icmp .ge 43, 3) := by decide +kernel
theorem dX11_look_230 : decode cX11_look 230 = .ok (.aload_n 0, 1) := by decide +kernel
theorem dX11_look_231 : decode cX11_look 231 = .ok (.getfield 159, 3) := by decide +kernel
theorem dX11_look_234 : decode cX11_look 234 = .ok (.iconst 2, 1) := by decide +kernel
theorem dX11_look_235 : decode cX11_look 235 = .ok (.if_icmp .ne 35, 3) := by decide +kernel
theorem dX11_look_238 : decode cX11_look 238 = .ok (.aload_n 0, 1) := by decide +kernel
theorem dX11_look_239 : decode cX11_look 239 = .ok (.bipush 10, 2) := by decide +kernel
theorem dX11_look_241 : decode cX11_look 241 = .ok (.aload_n 0, 1) := by decide +kernel
theorem dX11_look_242 : decode cX11_look 242 = .ok (.getfield 162, 3) := by decide +kernel
theorem dX11_look_245 : decode cX11_look 245 = .ok (.imul, 1) := by decide +kernel
theorem dX11_look_246 : decode cX11_look 246 = .ok (.aload_n 0, 1) := by decide +kernel
theorem dX11_look_247 : decode cX11_look 247 = .ok (.aload_n 0, 1) := by decide +kernel
theorem dX11_look_248 : decode cX11_look 248 = .ok (.getfield 149, 3) := by decide +kernel
theorem dX11_look_251 : decode cX11_look 251 = .ok (.iload 4, 2) := by decide +kernel
theorem dX11_look_253 : decode cX11_look 253 = .ok (.iadd, 1) := by decide +kernel
theorem dX11_look_254 : decode cX11_look 254 = .ok (.invokevirtual 153, 3) := by decide +kernel
theorem dX11_look_257 : decode cX11_look 257 = .ok (.iadd, 1) := by decide +kernel
theorem dX11_look_258 : decode cX11_look 258 = .ok (.bipush 48, 2) := by decide +kernel
theorem dX11_look_260 : decode cX11_look 260 = .ok (.isub, 1) := by decide +kernel
theorem dX11_look_261 : decode cX11_look 261 = .ok (.putfield 162, 3) := by decide +kernel
theorem dX11_look_264 : decode cX11_look 264 = .ok (.iinc 4 1, 3) := by decide +kernel
theorem dX11_look_267 : decode cX11_look 267 = .ok (.goto (-52), 3) := by decide +kernel
theorem dX11_look_270 : decode cX11_look 270 = .ok (.aload_n 0, 1) := by decide +kernel
theorem dX11_look_271 : decode cX11_look 271 = .ok (.aload_n 0, 1) := by decide +kernel
theorem dX11_look_272 : decode cX11_look 272 = .ok (.getfield 159, 3) := by decide +kernel
theorem dX11_look_275 : decode cX11_look 275 = .ok (.iconst 2, 1) := by decide +kernel
theorem dX11_look_276 : decode cX11_look 276 = .ok (.if_icmp .ne 15, 3) := by decide +kernel
theorem dX11_look_279 : decode cX11_look 279 = .ok (.aload_n 0, 1) := by decide +kernel
theorem dX11_look_280 : decode cX11_look 280 = .ok (.getfield 156, 3) := by decide +kernel
theorem dX11_look_283 : decode cX11_look 283 = .ok (.iconst 3, 1) := by decide +kernel
theorem dX11_look_284 : decode cX11_look 284 = .ok (.if_icmp .le 7, 3) := by decide +kernel
theorem dX11_look_287 : decode cX11_look 287 = .ok (.iconst 4, 1) := by decide +kernel
theorem dX11_look_288 : decode cX11_look 288 = .ok (.goto 7, 3) := by decide +kernel
theorem dX11_look_291 : decode cX11_look 291 = .ok (.aload_n 0, 1) := by decide +kernel
theorem dX11_look_292 : decode cX11_look 292 = .ok (.getfield 159, 3) := by decide +kernel
theorem dX11_look_295 : decode cX11_look 295 = .ok (.putfield 159, 3) := by decide +kernel
theorem dX11_look_298 : decode cX11_look 298 = .ok (.return_, 1) := by decide +kernel
set_option maxRecDepth 20000 in
theorem ggX11_goOn_X11_look : GoodIn wsX11_goOn wsX11_look := goodIn_r _ [7, 1, 2, 8, 9, 10, 11, 12, 6, 13, 14, 15, 16, 17, 18, 19, 20, 21, 22, 23, 24, 25, 26, 27, 28, 29, 30, 31, 32, 33, 34, 35, 36, 37, 38, 39, 40, 41, 42, 43, 44, 45, 46, 47, 48, 49, 50, 51, 52, 53, 54, 55, 56] (by decide +kernel) (by decide +kernel)
set_option maxRecDepth 20000 in
theorem gX11_goOn_X11_look : GoodIn wsX11_goOn (wsV RX11 171 RX11 yX11_look wsX11_look) := goodIn_app (goodIn_of _ (by decide +kernel)) ggX11_goOn_X11_look
theorem dX11_goOn_0 : decode cX11_goOn 0 = .ok (.aload_n 0, 1) := by decide +kernel
theorem dX11_goOn_1 : decode cX11_goOn 1 = .ok (.aload_n 0, 1) := by decide +kernel
theorem dX11_goOn_2 : decode cX11_goOn 2 = .ok (.getfield 149, 3) := by decide +kernel
theorem dX11_goOn_5 : decode cX11_goOn 5 = .ok (.aload_n 0, 1) := by decide +kernel
theorem dX11_goOn_6 : decode cX11_goOn 6 = .ok (.getfield 156, 3) := by decide +kernel
theorem dX11_goOn_9 : decode cX11_goOn 9 = .ok (.iadd, 1) := by decide +kernel
theorem dX11_goOn_10 : decode cX11_goOn 10 = .ok (.invokevirtual 171, 3) := by decide +kernel
theorem dX11_goOn_13 : decode cX11_goOn 13 = .ok (.return_, 1) := by decide +kernel
set_option maxRecDepth 20000 in
theorem ggX11_isWord_X11_byteAt : GoodIn wsX11_isWord wsX11_byteAt := goodIn_r _ [8, 9, 10, 11, 12, 13, 14, 15, 16, 17, 18, 19, 20, 21, 22, 23, 24, 25, 26, 27, 28, 29, 30, 31, 32, 33, 34] (by decide +kernel) (by decide +kernel)
set_option maxRecDepth 20000 in
theorem gX11_isWord_X11_byteAt : GoodIn wsX11_isWord (wsV RX11 153 RX11 yX11_byteAt wsX11_byteAt) := goodIn_app (goodIn_of _ (by decide +kernel)) ggX11_isWord_X11_byteAt
theorem dX11_isWord_0 : decode cX11_isWord 0 = .ok (.iload_n 3, 1) := by decide +kernel
theorem dX11_isWord_1 : decode cX11_isWord 1 = .ok (.ifCond .ne 7, 3) := by decide +kernel
theorem dX11_isWord_4 : decode cX11_isWord 4 = .ok (.iconst 2, 1) := by decide +kernel
theorem dX11_isWord_5 : decode cX11_isWord 5 = .ok (.goto 42, 3) := by decide +kernel
theorem dX11_isWord_8 : decode cX11_isWord 8 = .ok (.iload 4, 2) := by decide +kernel
theorem dX11_isWord_10 : decode cX11_isWord 10 = .ok (.ifCond .ne 7, 3) := by decide +kernel
theorem dX11_isWord_13 : decode cX11_isWord 13 = .ok (.iconst 3, 1) := by decide +kernel
theorem dX11_isWord_14 : decode cX11_isWord 14 = .ok (.goto 33, 3) := by decide +kernel
theorem dX11_isWord_17 : decode cX11_isWord 17 = .ok (.iload 5, 2) := by decide +kernel
theorem dX11_isWord_19 : decode cX11_isWord 19 = .ok (.ifCond .ne 7, 3) := by decide +kernel
theorem dX11_isWord_22 : decode cX11_isWord 22 = .ok (.iconst 4, 1) := by decide +kernel
theorem dX11_isWord_23 : decode cX11_isWord 23 = .ok (.goto 24, 3) := by decide +kernel
theorem dX11_isWord_26 : decode cX11_isWord 26 = .ok (.iload 6, 2) := by decide +kernel
theorem dX11_isWord_28 : decode cX11_isWord 28 = .ok (.ifCond .ne 7, 3) := by decide +kernel
theorem dX11_isWord_31 : decode cX11_isWord 31 = .ok (.iconst 5, 1) := by decide +kernel
theorem dX11_isWord_32 : decode cX11_isWord 32 = .ok (.goto 15, 3) := by decide +kernel
theorem dX11_isWord_35 : decode cX11_isWord 35 = .ok (.iload 7, 2) := by decide +kernel
theorem dX11_isWord_37 : decode cX11_isWord 37 = .ok (.ifCond .ne 8, 3) := by decide +kernel
theorem dX11_isWord_40 : decode cX11_isWord 40 = .ok (.bipush 6, 2) := by decide +kernel
theorem dX11_isWord_42 : decode cX11_isWord 42 = .ok (.goto 5, 3) := by decide +kernel
theorem dX11_isWord_45 : decode cX11_isWord 45 = .ok (.bipush 7, 2) := by decide +kernel
theorem dX11_isWord_47 : decode cX11_isWord 47 = .ok (.istore 8, 2) := by decide +kernel
theorem dX11_isWord_49 : decode cX11_isWord 49 = .ok (.aload_n 0, 1) := by decide +kernel
theorem dX11_isWord_50 : decode cX11_isWord 50 = .ok (.getfield 159, 3) := by decide +kernel
theorem dX11_isWord_53 : decode cX11_isWord 53 = .ok (.iconst 1, 1) := by decide +kernel
theorem dX11_isWord_54 : decode cX11_isWord 54 = .ok (.if_icmp .ne 16, 3) := by decide +kernel
theorem dX11_isWord_57 : decode cX11_isWord 57 = .ok (.aload_n 0, 1) := by decide +kernel
theorem dX11_isWord_58 : decode cX11_isWord 58 = .ok (.getfield 156, 3) := by decide +kernel
theorem dX11_isWord_61 : decode cX11_isWord 61 = .ok (.iload 8, 2) := by decide +kernel
theorem dX11_isWord_63 : decode cX11_isWord 63 = .ok (.if_icmp .ne 7, 3) := by decide +kernel
theorem dX11_isWord_66 : decode cX11_isWord 66 = .ok (.iconst 1, 1) := by decide +kernel
theorem dX11_isWord_67 : decode cX11_isWord 67 = .ok (.goto 4, 3) := by decide +kernel
theorem dX11_isWord_70 : decode cX11_isWord 70 = .ok (.iconst 0, 1) := by decide +kernel
theorem dX11_isWord_71 : decode cX11_isWord 71 = .ok (.istore 9, 2) := by decide +kernel
theorem dX11_isWord_73 : decode cX11_isWord 73 = .ok (.iconst 0, 1) := by decide +kernel
theorem dX11_isWord_74 : decode cX11_isWord 74 = .ok (.istore 10, 2) := by decide +kernel
theorem dX11_isWord_76 : decode cX11_isWord 76 = .ok (.iload 10, 2) := by decide +kernel
theorem dX11_isWord_78 : decode cX11_isWord 78 = .ok (.iload 8, 2) := by decide +kernel
theorem dX11_isWord_80 : decode cX11_isWord 80 = .ok (.if_icmp .ge 99, 3) := by decide +kernel
theorem dX11_isWord_83 : decode cX11_isWord 83 = .ok (.iload 9, 2) := by decide +kernel
theorem dX11_isWord_85 : decode cX11_isWord 85 = .ok (.ifCond .eq 94, 3) := by decide +kernel
theorem dX11_isWord_88 : decode cX11_isWord 88 = .ok (.aload_n 0, 1) := by decide +kernel
theorem dX11_isWord_89 : decode cX11_isWord 89 = .ok (.aload_n 0, 1) := by decide +kernel
theorem dX11_isWord_90 : decode cX11_isWord 90 = .ok (.getfield 149, 3) := by decide +kernel
theorem dX11_isWord_93 : decode cX11_isWord 93 = .ok (.iload 10, 2) := by decide +kernel
theorem dX11_isWord_95 : decode cX11_isWord 95 = .ok (.iadd, 1) := by decide +kernel
theorem dX11_isWord_96 : decode cX11_isWord 96 = .ok (.invokevirtual 153, 3) := by decide +kernel
theorem dX11_isWord_99 : decode cX11_isWord 99 = .ok (.iload 10, 2) := by decide +kernel
theorem dX11_isWord_101 : decode cX11_isWord 101 = .ok (.ifCond .ne 7, 3) := by decide +kernel
theorem dX11_isWord_104 : decode cX11_isWord 104 = .ok (.iload_n 1, 1) := by decide +kernel
theorem dX11_isWord_105 : decode cX11_isWord 105 = .ok (.goto 58, 3) := by decide +kernel
theorem dX11_isWord_108 : decode cX11_isWord 108 = .ok (.iload 10, 2) := by decide +kernel
theorem dX11_isWord_110 : decode cX11_isWord 110 = .ok (.iconst 1, 1) := by decide +kernel
theorem dX11_isWord_111 : decode cX11_isWord 111 = .ok (.if_icmp .ne 7, 3) := by decide +kernel
theorem dX11_isWord_114 : decode cX11_isWord 114 = .ok (.iload_n 2, 1) := by decide +kernel
theorem dX11_isWord_115 : decode cX11_isWord 115 = .ok (.goto 48, 3) := by decide +kernel
theorem dX11_isWord_118 : decode cX11_isWord 118 = .ok (.iload 10, 2) := by decide +kernel
theorem dX11_isWord_120 : decode cX11_isWord 120 = .ok (.iconst 2, 1) := by decide +kernel
theorem dX11_isWord_121 : decode cX11_isWord 121 = .ok (.if_icmp .ne 7, 3) := by decide +kernel
theorem dX11_isWord_124 : decode cX11_isWord 124 = .ok (.iload_n 3, 1) := by decide +kernel
theorem dX11_isWord_125 : decode cX11_isWord 125 = .ok (.goto 38, 3) := by decide +kernel
theorem dX11_isWord_128 : decode cX11_isWord 128 = .ok (.iload 10, 2) := by decide +kernel
theorem dX11_isWord_130 : decode cX11_isWord 130 = .ok (.iconst 3, 1) := by decide +kernel
theorem dX11_isWord_131 : decode cX11_isWord 131 = .ok (.if_icmp .ne 8, 3) := by decide +kernel
theorem dX11_isWord_134 : decode cX11_isWord 134 = .ok (.iload 4, 2) := by decide +kernel
theorem dX11_isWord_136 : decode cX11_isWord 136 = .ok (.goto 27, 3) := by decide +kernel
theorem dX11_isWord_139 : decode cX11_isWord 139 = .ok (.iload 10, 2) := by decide +kernel
theorem dX11_isWord_141 : decode cX11_isWord 141 = .ok (.iconst 4, 1) := by decide +kernel
theorem dX11_isWord_142 : decode cX11_isWord 142 = .ok (.if_icmp .ne 8, 3) := by decide +kernel
theorem dX11_isWord_145 : decode cX11_isWord 145 = .ok (.iload 5, 2) := by decide +kernel
theorem dX11_isWord_147 : decode cX11_isWord 147 = .ok (.goto 16, 3) := by decide +kernel
theorem dX11_isWord_150 : decode cX11_isWord 150 = .ok (.iload 10, 2) := by decide +kernel
theorem dX11_isWord_152 : decode cX11_isWord 152 = .ok (.iconst 5, 1) := by decide +kernel
theorem dX11_isWord_153 : decode cX11_isWord 153 = .ok (.if_icmp .ne 8, 3) := by decide +kernel
theorem dX11_isWord_156 : decode cX11_isWord 156 = .ok (.iload 6, 2) := by decide +kernel
theorem dX11_isWord_158 : decode cX11_isWord 158 = .ok (.goto 5, 3) := by decide +kernel
theorem dX11_isWord_161 : decode cX11_isWord 161 = .ok (.iload 7, 2) := by decide +kernel
theorem dX11_isWord_163 : decode cX11_isWord 163 = .ok (.if_icmp .ne 7, 3) := by decide +kernel
theorem dX11_isWord_166 : decode cX11_isWord 166 = .ok (.iconst 1, 1) := by decide +kernel
theorem dX11_isWord_167 : decode cX11_isWord 167 = .ok (.goto 4, 3) := by decide +kernel
theorem dX11_isWord_170 : decode cX11_isWord 170 = .ok (.iconst 0, 1) := by decide +kernel
theorem dX11_isWord_171 : decode cX11_isWord 171 = .ok (.istore 9, 2) := by decide +kernel
theorem dX11_isWord_173 : decode cX11_isWord 173 = .ok (.iinc 10 1, 3) := by decide +kernel
theorem dX11_isWord_176 : decode cX11_isWord 176 = .ok (.goto (-100), 3) := by decide +kernel
theorem dX11_isWord_179 : decode cX11_isWord 179 = .ok (.iload 9, 2) := by decide +kernel
theorem dX11_isWord_181 : decode cX11_isWord 181 = .ok (.ireturn, 1) := by decide +kernel
set_option maxRecDepth 20000 in
theorem ggX11_takes_X11_in : GoodIn wsX11_takes wsX11_in := goodIn_r _ [7] (by decide +kernel) (by decide +kernel)
set_option maxRecDepth 20000 in
theorem gX11_takes_X11_in : GoodIn wsX11_takes (va_wsS RX11 57 yX11_in wsX11_in) := goodIn_app (goodIn_of _ (by decide +kernel)) ggX11_takes_X11_in
set_option maxRecDepth 20000 in
theorem ggX11_takes_X11_goOn : GoodIn wsX11_takes wsX11_goOn := goodIn_r _ [11, 12, 13, 14, 15, 16, 6, 17, 1, 2, 18, 19, 20, 21, 22, 23, 24, 25, 26, 27, 28, 29, 30, 31, 4, 5, 7, 32, 33, 34, 35, 36, 37, 38, 39, 40, 41, 42, 43, 44, 45, 46, 47, 48, 49, 50, 51, 52, 53, 54, 55, 56, 57, 58, 59, 60, 61] (by decide +kernel) (by decide +kernel)
set_option maxRecDepth 20000 in
theorem gX11_takes_X11_goOn : GoodIn wsX11_takes (wsV RX11 178 RX11 yX11_goOn wsX11_goOn) := goodIn_app (goodIn_of _ (by decide +kernel)) ggX11_takes_X11_goOn
theorem dX11_takes_0 : decode cX11_takes 0 = .ok (.aload_n 0, 1) := by decide +kernel
theorem dX11_takes_1 : decode cX11_takes 1 = .ok (.getfield 159, 3) := by decide +kernel
theorem dX11_takes_4 : decode cX11_takes 4 = .ok (.iconst 2, 1) := by decide +kernel
theorem dX11_takes_5 : decode cX11_takes 5 = .ok (.if_icmp .ne 18, 3) := by decide +kernel
theorem dX11_takes_8 : decode cX11_takes 8 = .ok (.aload_n 0, 1) := by decide +kernel
theorem dX11_takes_9 : decode cX11_takes 9 = .ok (.getfield 162, 3) := by decide +kernel
theorem dX11_takes_12 : decode cX11_takes 12 = .ok (.i2l, 1) := by decide +kernel
theorem dX11_takes_13 : decode cX11_takes 13 = .ok (.iload_n 1, 1) := by decide +kernel
theorem dX11_takes_14 : decode cX11_takes 14 = .ok (.i2l, 1) := by decide +kernel
theorem dX11_takes_15 : decode cX11_takes 15 = .ok (.iload_n 2, 1) := by decide +kernel
theorem dX11_takes_16 : decode cX11_takes 16 = .ok (.i2l, 1) := by decide +kernel
theorem dX11_takes_17 : decode cX11_takes 17 = .ok (.invokestatic 57, 3) := by decide +kernel
theorem dX11_takes_20 : decode cX11_takes 20 = .ok (.ifCond .ne 5, 3) := by decide +kernel
theorem dX11_takes_23 : decode cX11_takes 23 = .ok (.iconst 0, 1) := by decide +kernel
theorem dX11_takes_24 : decode cX11_takes 24 = .ok (.ireturn, 1) := by decide +kernel
theorem dX11_takes_25 : decode cX11_takes 25 = .ok (.aload_n 0, 1) := by decide +kernel
theorem dX11_takes_26 : decode cX11_takes 26 = .ok (.aload_n 0, 1) := by decide +kernel
theorem dX11_takes_27 : decode cX11_takes 27 = .ok (.getfield 162, 3) := by decide +kernel
theorem dX11_takes_30 : decode cX11_takes 30 = .ok (.putfield 175, 3) := by decide +kernel
theorem dX11_takes_33 : decode cX11_takes 33 = .ok (.aload_n 0, 1) := by decide +kernel
theorem dX11_takes_34 : decode cX11_takes 34 = .ok (.invokevirtual 178, 3) := by decide +kernel
theorem dX11_takes_37 : decode cX11_takes 37 = .ok (.iconst 1, 1) := by decide +kernel
theorem dX11_takes_38 : decode cX11_takes 38 = .ok (.ireturn, 1) := by decide +kernel
set_option maxRecDepth 20000 in
theorem ggX11_readPorter_X11_goOn : GoodIn wsX11_readPorter wsX11_goOn := goodIn_r _ [8, 9, 10, 11, 12, 13, 7, 14, 15, 16, 17, 18, 19, 20, 21, 22, 23, 24, 25, 26, 27, 28, 29, 30, 31, 32, 33, 34, 35, 36, 37, 38, 43, 44, 45, 46, 47, 48, 49, 50, 51, 52, 53, 54, 55, 56, 57, 58, 59, 60, 61, 62, 63, 64, 65, 66, 67] (by decide +kernel) (by decide +kernel)
set_option maxRecDepth 20000 in
theorem gX11_readPorter_X11_goOn : GoodIn wsX11_readPorter (wsV RX11 178 RX11 yX11_goOn wsX11_goOn) := goodIn_app (goodIn_of _ (by decide +kernel)) ggX11_readPorter_X11_goOn
set_option maxRecDepth 20000 in
theorem ggX11_readPorter_X11_takes : GoodIn wsX11_readPorter wsX11_takes := goodIn_r _ [42, 15, 16, 3, 31, 32, 7, 33, 4, 5, 6, 8, 9, 10, 11, 12, 13, 14, 17, 18, 19, 20, 21, 22, 23, 24, 25, 26, 27, 28, 29, 30, 34, 35, 36, 37, 38, 43, 44, 45, 46, 47, 48, 49, 50, 51, 52, 53, 54, 55, 56, 57, 58, 59, 60, 61, 62, 63, 64, 65, 66, 67] (by decide +kernel) (by decide +kernel)
set_option maxRecDepth 20000 in
theorem gX11_readPorter_X11_takes : GoodIn wsX11_readPorter (wsV RX11 184 RX11 yX11_takes wsX11_takes) := goodIn_app (goodIn_of _ (by decide +kernel)) ggX11_readPorter_X11_takes
theorem dX11_readPorter_0 : decode cX11_readPorter 0 = .ok (.aload_n 0, 1) := by decide +kernel
theorem dX11_readPorter_1 : decode cX11_readPorter 1 = .ok (.getfield 181, 3) := by decide +kernel
theorem dX11_readPorter_4 : decode cX11_readPorter 4 = .ok (.bipush 6, 2) := by decide +kernel
theorem dX11_readPorter_6 : decode cX11_readPorter 6 = .ok (.if_icmp .ne 5, 3) := by decide +kernel
theorem dX11_readPorter_9 : decode cX11_readPorter 9 = .ok (.iconst 0, 1) := by decide +kernel
theorem dX11_readPorter_10 : decode cX11_readPorter 10 = .ok (.ireturn, 1) := by decide +kernel
theorem dX11_readPorter_11 : decode cX11_readPorter 11 = .ok (.aload_n 0, 1) := by decide +kernel
theorem dX11_readPorter_12 : decode cX11_readPorter 12 = .ok (.invokevirtual 178, 3) := by decide +kernel
theorem dX11_readPorter_15 : decode cX11_readPorter 15 = .ok (.iconst 1, 1) := by decide +kernel
theorem dX11_readPorter_16 : decode cX11_readPorter 16 = .ok (.istore_n 1, 1) := by decide +kernel
theorem dX11_readPorter_17 : decode cX11_readPorter 17 = .ok (.iconst 0, 1) := by decide +kernel
theorem dX11_readPorter_18 : decode cX11_readPorter 18 = .ok (.istore_n 2, 1) := by decide +kernel
theorem dX11_readPorter_19 : decode cX11_readPorter 19 = .ok (.iload_n 2, 1) := by decide +kernel
theorem dX11_readPorter_20 : decode cX11_readPorter 20 = .ok (.iconst 4, 1) := by decide +kernel
theorem dX11_readPorter_21 : decode cX11_readPorter 21 = .ok (.if_icmp .ge 77, 3) := by decide +kernel
theorem dX11_readPorter_24 : decode cX11_readPorter 24 = .ok (.iload_n 1, 1) := by decide +kernel
theorem dX11_readPorter_25 : decode cX11_readPorter 25 = .ok (.ifCond .eq 73, 3) := by decide +kernel
theorem dX11_readPorter_28 : decode cX11_readPorter 28 = .ok (.aload_n 0, 1) := by decide +kernel
theorem dX11_readPorter_29 : decode cX11_readPorter 29 = .ok (.iload_n 2, 1) := by decide +kernel
theorem dX11_readPorter_30 : decode cX11_readPorter 30 = .ok (.iconst 2, 1) := by decide +kernel
theorem dX11_readPorter_31 : decode cX11_readPorter 31 = .ok (.if_icmp .ge 7, 3) := by decide +kernel
theorem dX11_readPorter_34 : decode cX11_readPorter 34 = .ok (.iconst 1, 1) := by decide +kernel
theorem dX11_readPorter_35 : decode cX11_readPorter 35 = .ok (.goto 4, 3) := by decide +kernel
theorem dX11_readPorter_38 : decode cX11_readPorter 38 = .ok (.iconst 0, 1) := by decide +kernel
theorem dX11_readPorter_39 : decode cX11_readPorter 39 = .ok (.iload_n 2, 1) := by decide +kernel
theorem dX11_readPorter_40 : decode cX11_readPorter 40 = .ok (.ifCond .ne 8, 3) := by decide +kernel
theorem dX11_readPorter_43 : decode cX11_readPorter 43 = .ok (.bipush 60, 2) := by decide +kernel
theorem dX11_readPorter_45 : decode cX11_readPorter 45 = .ok (.goto 24, 3) := by decide +kernel
theorem dX11_readPorter_48 : decode cX11_readPorter 48 = .ok (.iload_n 2, 1) := by decide +kernel
theorem dX11_readPorter_49 : decode cX11_readPorter 49 = .ok (.iconst 1, 1) := by decide +kernel
theorem dX11_readPorter_50 : decode cX11_readPorter 50 = .ok (.if_icmp .ne 8, 3) := by decide +kernel
theorem dX11_readPorter_53 : decode cX11_readPorter 53 = .ok (.bipush 30, 2) := by decide +kernel
theorem dX11_readPorter_55 : decode cX11_readPorter 55 = .ok (.goto 14, 3) := by decide +kernel
theorem dX11_readPorter_58 : decode cX11_readPorter 58 = .ok (.iload_n 2, 1) := by decide +kernel
theorem dX11_readPorter_59 : decode cX11_readPorter 59 = .ok (.iconst 2, 1) := by decide +kernel
theorem dX11_readPorter_60 : decode cX11_readPorter 60 = .ok (.if_icmp .ne 8, 3) := by decide +kernel
theorem dX11_readPorter_63 : decode cX11_readPorter 63 = .ok (.bipush 99, 2) := by decide +kernel
theorem dX11_readPorter_65 : decode cX11_readPorter 65 = .ok (.goto 4, 3) := by decide +kernel
theorem dX11_readPorter_68 : decode cX11_readPorter 68 = .ok (.iconst 5, 1) := by decide +kernel
theorem dX11_readPorter_69 : decode cX11_readPorter 69 = .ok (.invokevirtual 184, 3) := by decide +kernel
theorem dX11_readPorter_72 : decode cX11_readPorter 72 = .ok (.istore_n 1, 1) := by decide +kernel
theorem dX11_readPorter_73 : decode cX11_readPorter 73 = .ok (.aload_n 0, 1) := by decide +kernel
theorem dX11_readPorter_74 : decode cX11_readPorter 74 = .ok (.getfield 26, 3) := by decide +kernel
theorem dX11_readPorter_77 : decode cX11_readPorter 77 = .ok (.iconst 0, 1) := by decide +kernel
theorem dX11_readPorter_78 : decode cX11_readPorter 78 = .ok (.iconst 4, 1) := by decide +kernel
theorem dX11_readPorter_79 : decode cX11_readPorter 79 = .ok (.aload_n 0, 1) := by decide +kernel
theorem dX11_readPorter_80 : decode cX11_readPorter 80 = .ok (.getfield 181, 3) := by decide +kernel
theorem dX11_readPorter_83 : decode cX11_readPorter 83 = .ok (.imul, 1) := by decide +kernel
theorem dX11_readPorter_84 : decode cX11_readPorter 84 = .ok (.iadd, 1) := by decide +kernel
theorem dX11_readPorter_85 : decode cX11_readPorter 85 = .ok (.iload_n 2, 1) := by decide +kernel
theorem dX11_readPorter_86 : decode cX11_readPorter 86 = .ok (.iadd, 1) := by decide +kernel
theorem dX11_readPorter_87 : decode cX11_readPorter 87 = .ok (.aload_n 0, 1) := by decide +kernel
theorem dX11_readPorter_88 : decode cX11_readPorter 88 = .ok (.getfield 175, 3) := by decide +kernel
theorem dX11_readPorter_91 : decode cX11_readPorter 91 = .ok (.iastore, 1) := by decide +kernel
theorem dX11_readPorter_92 : decode cX11_readPorter 92 = .ok (.iinc 2 1, 3) := by decide +kernel
theorem dX11_readPorter_95 : decode cX11_readPorter 95 = .ok (.goto (-76), 3) := by decide +kernel
theorem dX11_readPorter_98 : decode cX11_readPorter 98 = .ok (.aload_n 0, 1) := by decide +kernel
theorem dX11_readPorter_99 : decode cX11_readPorter 99 = .ok (.dup, 1) := by decide +kernel
theorem dX11_readPorter_100 : decode cX11_readPorter 100 = .ok (.getfield 181, 3) := by decide +kernel
theorem dX11_readPorter_103 : decode cX11_readPorter 103 = .ok (.iconst 1, 1) := by decide +kernel
theorem dX11_readPorter_104 : decode cX11_readPorter 104 = .ok (.iadd, 1) := by decide +kernel
theorem dX11_readPorter_105 : decode cX11_readPorter 105 = .ok (.putfield 181, 3) := by decide +kernel
theorem dX11_readPorter_108 : decode cX11_readPorter 108 = .ok (.iload_n 1, 1) := by decide +kernel
theorem dX11_readPorter_109 : decode cX11_readPorter 109 = .ok (.ireturn, 1) := by decide +kernel
set_option maxRecDepth 20000 in
theorem ggX11_readGo_X11_goOn : GoodIn wsX11_readGo wsX11_goOn := goodIn_r _ [11, 12, 13, 14, 15, 16, 10, 17, 5, 6, 18, 19, 20, 21, 22, 23, 24, 25, 26, 27, 28, 29, 30, 31, 32, 33, 34, 35, 36, 37, 38, 39, 44, 45, 46, 47, 48, 49, 50, 51, 52, 53, 54, 55, 56, 57, 58, 59, 60, 61, 62, 63, 64, 65, 66, 67, 68] (by decide +kernel) (by decide +kernel)
set_option maxRecDepth 20000 in
theorem gX11_readGo_X11_goOn : GoodIn wsX11_readGo (wsV RX11 178 RX11 yX11_goOn wsX11_goOn) := goodIn_app (goodIn_of _ (by decide +kernel)) ggX11_readGo_X11_goOn
set_option maxRecDepth 20000 in
theorem ggX11_readGo_X11_takes : GoodIn wsX11_readGo wsX11_takes := goodIn_r _ [43, 5, 6, 3, 32, 33, 10, 34, 7, 8, 9, 11, 12, 13, 14, 15, 16, 17, 18, 19, 20, 21, 22, 23, 24, 25, 26, 27, 28, 29, 30, 31, 35, 36, 37, 38, 39, 44, 45, 46, 47, 48, 49, 50, 51, 52, 53, 54, 55, 56, 57, 58, 59, 60, 61, 62, 63, 64, 65, 66, 67, 68] (by decide +kernel) (by decide +kernel)
set_option maxRecDepth 20000 in
theorem gX11_readGo_X11_takes : GoodIn wsX11_readGo (wsV RX11 184 RX11 yX11_takes wsX11_takes) := goodIn_app (goodIn_of _ (by decide +kernel)) ggX11_readGo_X11_takes
theorem dX11_readGo_0 : decode cX11_readGo 0 = .ok (.aload_n 0, 1) := by decide +kernel
theorem dX11_readGo_1 : decode cX11_readGo 1 = .ok (.getfield 188, 3) := by decide +kernel
theorem dX11_readGo_4 : decode cX11_readGo 4 = .ok (.bipush 20, 2) := by decide +kernel
theorem dX11_readGo_6 : decode cX11_readGo 6 = .ok (.if_icmp .ne 5, 3) := by decide +kernel
theorem dX11_readGo_9 : decode cX11_readGo 9 = .ok (.iconst 0, 1) := by decide +kernel
theorem dX11_readGo_10 : decode cX11_readGo 10 = .ok (.ireturn, 1) := by decide +kernel
theorem dX11_readGo_11 : decode cX11_readGo 11 = .ok (.aload_n 0, 1) := by decide +kernel
theorem dX11_readGo_12 : decode cX11_readGo 12 = .ok (.invokevirtual 178, 3) := by decide +kernel
theorem dX11_readGo_15 : decode cX11_readGo 15 = .ok (.aload_n 0, 1) := by decide +kernel
theorem dX11_readGo_16 : decode cX11_readGo 16 = .ok (.aload_n 0, 1) := by decide +kernel
theorem dX11_readGo_17 : decode cX11_readGo 17 = .ok (.getfield 188, 3) := by decide +kernel
theorem dX11_readGo_20 : decode cX11_readGo 20 = .ok (.ifCond .ne 7, 3) := by decide +kernel
theorem dX11_readGo_23 : decode cX11_readGo 23 = .ok (.iconst 0, 1) := by decide +kernel
theorem dX11_readGo_24 : decode cX11_readGo 24 = .ok (.goto 19, 3) := by decide +kernel
theorem dX11_readGo_27 : decode cX11_readGo 27 = .ok (.aload_n 0, 1) := by decide +kernel
theorem dX11_readGo_28 : decode cX11_readGo 28 = .ok (.getfield 26, 3) := by decide +kernel
theorem dX11_readGo_31 : decode cX11_readGo 31 = .ok (.bipush 28, 2) := by decide +kernel
theorem dX11_readGo_33 : decode cX11_readGo 33 = .ok (.iconst 2, 1) := by decide +kernel
theorem dX11_readGo_34 : decode cX11_readGo 34 = .ok (.aload_n 0, 1) := by decide +kernel
theorem dX11_readGo_35 : decode cX11_readGo 35 = .ok (.getfield 188, 3) := by decide +kernel
theorem dX11_readGo_38 : decode cX11_readGo 38 = .ok (.imul, 1) := by decide +kernel
theorem dX11_readGo_39 : decode cX11_readGo 39 = .ok (.iadd, 1) := by decide +kernel
theorem dX11_readGo_40 : decode cX11_readGo 40 = .ok (.iconst 2, 1) := by decide +kernel
theorem dX11_readGo_41 : decode cX11_readGo 41 = .ok (.isub, 1) := by decide +kernel
theorem dX11_readGo_42 : decode cX11_readGo 42 = .ok (.iaload, 1) := by decide +kernel
theorem dX11_readGo_43 : decode cX11_readGo 43 = .ok (.sipush 239, 3) := by decide +kernel
theorem dX11_readGo_46 : decode cX11_readGo 46 = .ok (.invokevirtual 184, 3) := by decide +kernel
theorem dX11_readGo_49 : decode cX11_readGo 49 = .ok (.ifCond .ne 5, 3) := by decide +kernel
theorem dX11_readGo_52 : decode cX11_readGo 52 = .ok (.iconst 0, 1) := by decide +kernel
theorem dX11_readGo_53 : decode cX11_readGo 53 = .ok (.ireturn, 1) := by decide +kernel
theorem dX11_readGo_54 : decode cX11_readGo 54 = .ok (.aload_n 0, 1) := by decide +kernel
theorem dX11_readGo_55 : decode cX11_readGo 55 = .ok (.getfield 26, 3) := by decide +kernel
theorem dX11_readGo_58 : decode cX11_readGo 58 = .ok (.bipush 28, 2) := by decide +kernel
theorem dX11_readGo_60 : decode cX11_readGo 60 = .ok (.iconst 2, 1) := by decide +kernel
theorem dX11_readGo_61 : decode cX11_readGo 61 = .ok (.aload_n 0, 1) := by decide +kernel
theorem dX11_readGo_62 : decode cX11_readGo 62 = .ok (.getfield 188, 3) := by decide +kernel
theorem dX11_readGo_65 : decode cX11_readGo 65 = .ok (.imul, 1) := by decide +kernel
theorem dX11_readGo_66 : decode cX11_readGo 66 = .ok (.iadd, 1) := by decide +kernel
theorem dX11_readGo_67 : decode cX11_readGo 67 = .ok (.aload_n 0, 1) := by decide +kernel
theorem dX11_readGo_68 : decode cX11_readGo 68 = .ok (.getfield 175, 3) := by decide +kernel
theorem dX11_readGo_71 : decode cX11_readGo 71 = .ok (.iastore, 1) := by decide +kernel
theorem dX11_readGo_72 : decode cX11_readGo 72 = .ok (.aload_n 0, 1) := by decide +kernel
theorem dX11_readGo_73 : decode cX11_readGo 73 = .ok (.iconst 0, 1) := by decide +kernel
theorem dX11_readGo_74 : decode cX11_readGo 74 = .ok (.aload_n 0, 1) := by decide +kernel
theorem dX11_readGo_75 : decode cX11_readGo 75 = .ok (.getfield 181, 3) := by decide +kernel
theorem dX11_readGo_78 : decode cX11_readGo 78 = .ok (.iconst 1, 1) := by decide +kernel
theorem dX11_readGo_79 : decode cX11_readGo 79 = .ok (.isub, 1) := by decide +kernel
theorem dX11_readGo_80 : decode cX11_readGo 80 = .ok (.invokevirtual 184, 3) := by decide +kernel
theorem dX11_readGo_83 : decode cX11_readGo 83 = .ok (.ifCond .ne 5, 3) := by decide +kernel
theorem dX11_readGo_86 : decode cX11_readGo 86 = .ok (.iconst 0, 1) := by decide +kernel
theorem dX11_readGo_87 : decode cX11_readGo 87 = .ok (.ireturn, 1) := by decide +kernel
theorem dX11_readGo_88 : decode cX11_readGo 88 = .ok (.aload_n 0, 1) := by decide +kernel
theorem dX11_readGo_89 : decode cX11_readGo 89 = .ok (.getfield 175, 3) := by decide +kernel
theorem dX11_readGo_92 : decode cX11_readGo 92 = .ok (.istore_n 1, 1) := by decide +kernel
theorem dX11_readGo_93 : decode cX11_readGo 93 = .ok (.iconst 1, 1) := by decide +kernel
theorem dX11_readGo_94 : decode cX11_readGo 94 = .ok (.iload_n 1, 1) := by decide +kernel
theorem dX11_readGo_95 : decode cX11_readGo 95 = .ok (.ishl, 1) := by decide +kernel
theorem dX11_readGo_96 : decode cX11_readGo 96 = .ok (.istore_n 2, 1) := by decide +kernel
theorem dX11_readGo_97 : decode cX11_readGo 97 = .ok (.aload_n 0, 1) := by decide +kernel
theorem dX11_readGo_98 : decode cX11_readGo 98 = .ok (.getfield 159, 3) := by decide +kernel
theorem dX11_readGo_101 : decode cX11_readGo 101 = .ok (.iconst 2, 1) := by decide +kernel
theorem dX11_readGo_102 : decode cX11_readGo 102 = .ok (.if_icmp .ne 36, 3) := by decide +kernel
theorem dX11_readGo_105 : decode cX11_readGo 105 = .ok (.aload_n 0, 1) := by decide +kernel
theorem dX11_readGo_106 : decode cX11_readGo 106 = .ok (.getfield 162, 3) := by decide +kernel
theorem dX11_readGo_109 : decode cX11_readGo 109 = .ok (.iload_n 1, 1) := by decide +kernel
theorem dX11_readGo_110 : decode cX11_readGo 110 = .ok (.if_icmp .eq 17, 3) := by decide +kernel
theorem dX11_readGo_113 : decode cX11_readGo 113 = .ok (.aload_n 0, 1) := by decide +kernel
theorem dX11_readGo_114 : decode cX11_readGo 114 = .ok (.iconst 0, 1) := by decide +kernel
theorem dX11_readGo_115 : decode cX11_readGo 115 = .ok (.aload_n 0, 1) := by decide +kernel
theorem dX11_readGo_116 : decode cX11_readGo 116 = .ok (.getfield 181, 3) := by decide +kernel
theorem dX11_readGo_119 : decode cX11_readGo 119 = .ok (.iconst 1, 1) := by decide +kernel
theorem dX11_readGo_120 : decode cX11_readGo 120 = .ok (.isub, 1) := by decide +kernel
theorem dX11_readGo_121 : decode cX11_readGo 121 = .ok (.invokevirtual 184, 3) := by decide +kernel
theorem dX11_readGo_124 : decode cX11_readGo 124 = .ok (.ifCond .ne 5, 3) := by decide +kernel
theorem dX11_readGo_127 : decode cX11_readGo 127 = .ok (.iconst 0, 1) := by decide +kernel
theorem dX11_readGo_128 : decode cX11_readGo 128 = .ok (.ireturn, 1) := by decide +kernel
theorem dX11_readGo_129 : decode cX11_readGo 129 = .ok (.iload_n 2, 1) := by decide +kernel
theorem dX11_readGo_130 : decode cX11_readGo 130 = .ok (.iconst 1, 1) := by decide +kernel
theorem dX11_readGo_131 : decode cX11_readGo 131 = .ok (.aload_n 0, 1) := by decide +kernel
theorem dX11_readGo_132 : decode cX11_readGo 132 = .ok (.getfield 175, 3) := by decide +kernel
theorem dX11_readGo_135 : decode cX11_readGo 135 = .ok (.ishl, 1) := by decide +kernel
theorem dX11_readGo_136 : decode cX11_readGo 136 = .ok (.ior, 1) := by decide +kernel
theorem dX11_readGo_137 : decode cX11_readGo 137 = .ok (.istore_n 2, 1) := by decide +kernel
theorem dX11_readGo_138 : decode cX11_readGo 138 = .ok (.aload_n 0, 1) := by decide +kernel
theorem dX11_readGo_139 : decode cX11_readGo 139 = .ok (.getfield 26, 3) := by decide +kernel
theorem dX11_readGo_142 : decode cX11_readGo 142 = .ok (.bipush 28, 2) := by decide +kernel
theorem dX11_readGo_144 : decode cX11_readGo 144 = .ok (.iconst 2, 1) := by decide +kernel
theorem dX11_readGo_145 : decode cX11_readGo 145 = .ok (.aload_n 0, 1) := by decide +kernel
theorem dX11_readGo_146 : decode cX11_readGo 146 = .ok (.getfield 188, 3) := by decide +kernel
theorem dX11_readGo_149 : decode cX11_readGo 149 = .ok (.imul, 1) := by decide +kernel
theorem dX11_readGo_150 : decode cX11_readGo 150 = .ok (.iadd, 1) := by decide +kernel
theorem dX11_readGo_151 : decode cX11_readGo 151 = .ok (.iconst 1, 1) := by decide +kernel
theorem dX11_readGo_152 : decode cX11_readGo 152 = .ok (.iadd, 1) := by decide +kernel
theorem dX11_readGo_153 : decode cX11_readGo 153 = .ok (.iload_n 2, 1) := by decide +kernel
theorem dX11_readGo_154 : decode cX11_readGo 154 = .ok (.iastore, 1) := by decide +kernel
theorem dX11_readGo_155 : decode cX11_readGo 155 = .ok (.aload_n 0, 1) := by decide +kernel
theorem dX11_readGo_156 : decode cX11_readGo 156 = .ok (.dup, 1) := by decide +kernel
theorem dX11_readGo_157 : decode cX11_readGo 157 = .ok (.getfield 188, 3) := by decide +kernel
theorem dX11_readGo_160 : decode cX11_readGo 160 = .ok (.iconst 1, 1) := by decide +kernel
theorem dX11_readGo_161 : decode cX11_readGo 161 = .ok (.iadd, 1) := by decide +kernel
theorem dX11_readGo_162 : decode cX11_readGo 162 = .ok (.putfield 188, 3) := by decide +kernel
theorem dX11_readGo_165 : decode cX11_readGo 165 = .ok (.iconst 1, 1) := by decide +kernel
theorem dX11_readGo_166 : decode cX11_readGo 166 = .ok (.ireturn, 1) := by decide +kernel
set_option maxRecDepth 20000 in
theorem ggX11_readNumber_X11_goOn : GoodIn wsX11_readNumber wsX11_goOn := goodIn_r _ [7, 8, 9, 10, 11, 12, 6, 13, 14, 15, 16, 17, 18, 19, 20, 21, 22, 23, 24, 25, 26, 27, 28, 29, 30, 31, 32, 33, 34, 35, 36, 37, 45, 46, 47, 48, 49, 50, 51, 52, 53, 54, 55, 56, 57, 58, 59, 60, 61, 62, 63, 64, 65, 66, 67, 68, 69] (by decide +kernel) (by decide +kernel)
set_option maxRecDepth 20000 in
theorem gX11_readNumber_X11_goOn : GoodIn wsX11_readNumber (wsV RX11 178 RX11 yX11_goOn wsX11_goOn) := goodIn_app (goodIn_of _ (by decide +kernel)) ggX11_readNumber_X11_goOn
set_option maxRecDepth 20000 in
theorem ggX11_readNumber_X11_mostOf : GoodIn wsX11_readNumber wsX11_mostOf := goodIn_r _ [40] (by decide +kernel) (by decide +kernel)
set_option maxRecDepth 20000 in
theorem gX11_readNumber_X11_mostOf : GoodIn wsX11_readNumber (va_wsS RX11 82 yX11_mostOf wsX11_mostOf) := goodIn_app (goodIn_of _ (by decide +kernel)) ggX11_readNumber_X11_mostOf
set_option maxRecDepth 20000 in
theorem ggX11_readNumber_X11_takes : GoodIn wsX11_readNumber wsX11_takes := goodIn_r _ [44, 14, 15, 2, 30, 31, 6, 32, 3, 4, 5, 7, 8, 9, 10, 11, 12, 13, 16, 17, 18, 19, 20, 21, 22, 23, 24, 25, 26, 27, 28, 29, 33, 34, 35, 36, 37, 45, 46, 47, 48, 49, 50, 51, 52, 53, 54, 55, 56, 57, 58, 59, 60, 61, 62, 63, 64, 65, 66, 67, 68, 69] (by decide +kernel) (by decide +kernel)
set_option maxRecDepth 20000 in
theorem gX11_readNumber_X11_takes : GoodIn wsX11_readNumber (wsV RX11 184 RX11 yX11_takes wsX11_takes) := goodIn_app (goodIn_of _ (by decide +kernel)) ggX11_readNumber_X11_takes
theorem dX11_readNumber_0 : decode cX11_readNumber 0 = .ok (.aload_n 0, 1) := by decide +kernel
theorem dX11_readNumber_1 : decode cX11_readNumber 1 = .ok (.invokevirtual 178, 3) := by decide +kernel
theorem dX11_readNumber_4 : decode cX11_readNumber 4 = .ok (.aload_n 0, 1) := by decide +kernel
theorem dX11_readNumber_5 : decode cX11_readNumber 5 = .ok (.iconst 0, 1) := by decide +kernel
theorem dX11_readNumber_6 : decode cX11_readNumber 6 = .ok (.iload_n 1, 1) := by decide +kernel
theorem dX11_readNumber_7 : decode cX11_readNumber 7 = .ok (.invokestatic 82, 3) := by decide +kernel
theorem dX11_readNumber_10 : decode cX11_readNumber 10 = .ok (.invokevirtual 184, 3) := by decide +kernel
theorem dX11_readNumber_13 : decode cX11_readNumber 13 = .ok (.istore_n 2, 1) := by decide +kernel
theorem dX11_readNumber_14 : decode cX11_readNumber 14 = .ok (.aload_n 0, 1) := by decide +kernel
theorem dX11_readNumber_15 : decode cX11_readNumber 15 = .ok (.getfield 26, 3) := by decide +kernel
theorem dX11_readNumber_18 : decode cX11_readNumber 18 = .ok (.bipush 24, 2) := by decide +kernel
theorem dX11_readNumber_20 : decode cX11_readNumber 20 = .ok (.iload_n 1, 1) := by decide +kernel
theorem dX11_readNumber_21 : decode cX11_readNumber 21 = .ok (.iadd, 1) := by decide +kernel
theorem dX11_readNumber_22 : decode cX11_readNumber 22 = .ok (.aload_n 0, 1) := by decide +kernel
theorem dX11_readNumber_23 : decode cX11_readNumber 23 = .ok (.getfield 175, 3) := by decide +kernel
theorem dX11_readNumber_26 : decode cX11_readNumber 26 = .ok (.iastore, 1) := by decide +kernel
theorem dX11_readNumber_27 : decode cX11_readNumber 27 = .ok (.iload_n 2, 1) := by decide +kernel
theorem dX11_readNumber_28 : decode cX11_readNumber 28 = .ok (.ireturn, 1) := by decide +kernel
set_option maxRecDepth 20000 in
theorem ggX11_readItem_X11_isWord : GoodIn wsX11_readItem wsX11_isWord := goodIn_r _ [5, 6, 7, 8, 9, 10, 11, 4, 12, 13, 63, 64, 65, 66, 67, 68, 69, 70, 71, 72, 73, 74, 75, 76, 77, 78, 79, 80, 81, 82, 83, 84, 85, 86, 87] (by decide +kernel) (by decide +kernel)
set_option maxRecDepth 20000 in
theorem gX11_readItem_X11_isWord : GoodIn wsX11_readItem (wsV RX11 191 RX11 yX11_isWord wsX11_isWord) := goodIn_app (goodIn_of _ (by decide +kernel)) ggX11_readItem_X11_isWord
set_option maxRecDepth 20000 in
theorem ggX11_readItem_X11_readPorter : GoodIn wsX11_readItem wsX11_readPorter := goodIn_r _ [17, 18, 19, 20, 21, 22, 23, 4, 24, 8, 7, 25, 26, 27, 28, 6, 29, 30, 31, 32, 33, 13, 9, 10, 11, 12, 34, 35, 36, 37, 38, 39, 40, 41, 42, 43, 44, 45, 46, 47, 48, 49, 50, 63, 64, 65, 66, 67, 68, 69, 70, 71, 72, 73, 74, 75, 76, 77, 78, 79, 80, 81, 82, 83, 84, 85, 86, 87] (by decide +kernel) (by decide +kernel)
set_option maxRecDepth 20000 in
theorem gX11_readItem_X11_readPorter : GoodIn wsX11_readItem (wsV RX11 195 RX11 yX11_readPorter wsX11_readPorter) := goodIn_app (goodIn_of _ (by decide +kernel)) ggX11_readItem_X11_readPorter
set_option maxRecDepth 20000 in
theorem ggX11_readItem_X11_readGo : GoodIn wsX11_readItem wsX11_readGo := goodIn_r _ [54, 55, 19, 20, 18, 6, 29, 21, 22, 23, 4, 24, 8, 7, 25, 26, 27, 28, 30, 31, 32, 33, 13, 9, 10, 11, 12, 34, 35, 36, 37, 38, 39, 40, 41, 42, 43, 44, 45, 46, 47, 48, 49, 50, 63, 64, 65, 66, 67, 68, 69, 70, 71, 72, 73, 74, 75, 76, 77, 78, 79, 80, 81, 82, 83, 84, 85, 86, 87] (by decide +kernel) (by decide +kernel)
set_option maxRecDepth 20000 in
theorem gX11_readItem_X11_readGo : GoodIn wsX11_readItem (wsV RX11 199 RX11 yX11_readGo wsX11_readGo) := goodIn_app (goodIn_of _ (by decide +kernel)) ggX11_readItem_X11_readGo
set_option maxRecDepth 20000 in
theorem ggX11_readItem_X11_readNumber : GoodIn wsX11_readItem wsX11_readNumber := goodIn_r _ [59, 19, 20, 21, 22, 23, 4, 24, 8, 7, 25, 26, 27, 28, 6, 29, 30, 31, 32, 33, 13, 9, 10, 11, 12, 34, 35, 36, 37, 38, 39, 40, 41, 42, 43, 44, 45, 46, 60, 61, 62, 47, 48, 49, 50, 63, 64, 65, 66, 67, 68, 69, 70, 71, 72, 73, 74, 75, 76, 77, 78, 79, 80, 81, 82, 83, 84, 85, 86, 87] (by decide +kernel) (by decide +kernel)
set_option maxRecDepth 20000 in
theorem gX11_readItem_X11_readNumber : GoodIn wsX11_readItem (wsV RX11 202 RX11 yX11_readNumber wsX11_readNumber) := goodIn_app (goodIn_of _ (by decide +kernel)) ggX11_readItem_X11_readNumber
theorem dX11_readItem_0 : decode cX11_readItem 0 = .ok (.aload_n 0, 1) := by decide +kernel
theorem dX11_readItem_1 : decode cX11_readItem 1 = .ok (.bipush 112, 2) := by decide +kernel
theorem dX11_readItem_3 : decode cX11_readItem 3 = .ok (.bipush 111, 2) := by decide +kernel
theorem dX11_readItem_5 : decode cX11_readItem 5 = .ok (.bipush 114, 2) := by decide +kernel
theorem dX11_readItem_7 : decode cX11_readItem 7 = .ok (.bipush 116, 2) := by decide +kernel
theorem dX11_readItem_9 : decode cX11_readItem 9 = .ok (.bipush 101, 2) := by decide +kernel
theorem dX11_readItem_11 : decode cX11_readItem 11 = .ok (.bipush 114, 2) := by decide +kernel
theorem dX11_readItem_13 : decode cX11_readItem 13 = .ok (.iconst 0, 1) := by decide +kernel
theorem dX11_readItem_14 : decode cX11_readItem 14 = .ok (.invokevirtual 191, 3) := by decide +kernel
theorem dX11_readItem_17 : decode cX11_readItem 17 = .ok (.ifCond .eq 8, 3) := by decide +kernel
theorem dX11_readItem_20 : decode cX11_readItem 20 = .ok (.aload_n 0, 1) := by decide +kernel
theorem dX11_readItem_21 : decode cX11_readItem 21 = .ok (.invokevirtual 195, 3) := by decide +kernel
theorem dX11_readItem_24 : decode cX11_readItem 24 = .ok (.ireturn, 1) := by decide +kernel
theorem dX11_readItem_25 : decode cX11_readItem 25 = .ok (.aload_n 0, 1) := by decide +kernel
theorem dX11_readItem_26 : decode cX11_readItem 26 = .ok (.bipush 103, 2) := by decide +kernel
theorem dX11_readItem_28 : decode cX11_readItem 28 = .ok (.bipush 111, 2) := by decide +kernel
theorem dX11_readItem_30 : decode cX11_readItem 30 = .ok (.iconst 0, 1) := by decide +kernel
theorem dX11_readItem_31 : decode cX11_readItem 31 = .ok (.iconst 0, 1) := by decide +kernel
theorem dX11_readItem_32 : decode cX11_readItem 32 = .ok (.iconst 0, 1) := by decide +kernel
theorem dX11_readItem_33 : decode cX11_readItem 33 = .ok (.iconst 0, 1) := by decide +kernel
theorem dX11_readItem_34 : decode cX11_readItem 34 = .ok (.iconst 0, 1) := by decide +kernel
theorem dX11_readItem_35 : decode cX11_readItem 35 = .ok (.invokevirtual 191, 3) := by decide +kernel
theorem dX11_readItem_38 : decode cX11_readItem 38 = .ok (.ifCond .eq 8, 3) := by decide +kernel
theorem dX11_readItem_41 : decode cX11_readItem 41 = .ok (.aload_n 0, 1) := by decide +kernel
theorem dX11_readItem_42 : decode cX11_readItem 42 = .ok (.invokevirtual 199, 3) := by decide +kernel
theorem dX11_readItem_45 : decode cX11_readItem 45 = .ok (.ireturn, 1) := by decide +kernel
theorem dX11_readItem_46 : decode cX11_readItem 46 = .ok (.aload_n 0, 1) := by decide +kernel
theorem dX11_readItem_47 : decode cX11_readItem 47 = .ok (.bipush 103, 2) := by decide +kernel
theorem dX11_readItem_49 : decode cX11_readItem 49 = .ok (.bipush 97, 2) := by decide +kernel
theorem dX11_readItem_51 : decode cX11_readItem 51 = .ok (.bipush 112, 2) := by decide +kernel
theorem dX11_readItem_53 : decode cX11_readItem 53 = .ok (.iconst 0, 1) := by decide +kernel
theorem dX11_readItem_54 : decode cX11_readItem 54 = .ok (.iconst 0, 1) := by decide +kernel
theorem dX11_readItem_55 : decode cX11_readItem 55 = .ok (.iconst 0, 1) := by decide +kernel
theorem dX11_readItem_56 : decode cX11_readItem 56 = .ok (.iconst 0, 1) := by decide +kernel
theorem dX11_readItem_57 : decode cX11_readItem 57 = .ok (.invokevirtual 191, 3) := by decide +kernel
theorem dX11_readItem_60 : decode cX11_readItem 60 = .ok (.ifCond .eq 7, 3) := by decide +kernel
theorem dX11_readItem_63 : decode cX11_readItem 63 = .ok (.iconst 0, 1) := by decide +kernel
theorem dX11_readItem_64 : decode cX11_readItem 64 = .ok (.goto 74, 3) := by decide +kernel
theorem dX11_readItem_67 : decode cX11_readItem 67 = .ok (.aload_n 0, 1) := by decide +kernel
theorem dX11_readItem_68 : decode cX11_readItem 68 = .ok (.bipush 101, 2) := by decide +kernel
theorem dX11_readItem_70 : decode cX11_readItem 70 = .ok (.bipush 118, 2) := by decide +kernel
theorem dX11_readItem_72 : decode cX11_readItem 72 = .ok (.bipush 101, 2) := by decide +kernel
theorem dX11_readItem_74 : decode cX11_readItem 74 = .ok (.bipush 110, 2) := by decide +kernel
theorem dX11_readItem_76 : decode cX11_readItem 76 = .ok (.bipush 105, 2) := by decide +kernel
theorem dX11_readItem_78 : decode cX11_readItem 78 = .ok (.bipush 110, 2) := by decide +kernel
theorem dX11_readItem_80 : decode cX11_readItem 80 = .ok (.bipush 103, 2) := by decide +kernel
theorem dX11_readItem_82 : decode cX11_readItem 82 = .ok (.invokevirtual 191, 3) := by decide +kernel
theorem dX11_readItem_85 : decode cX11_readItem 85 = .ok (.ifCond .eq 7, 3) := by decide +kernel
theorem dX11_readItem_88 : decode cX11_readItem 88 = .ok (.iconst 1, 1) := by decide +kernel
theorem dX11_readItem_89 : decode cX11_readItem 89 = .ok (.goto 49, 3) := by decide +kernel
theorem dX11_readItem_92 : decode cX11_readItem 92 = .ok (.aload_n 0, 1) := by decide +kernel
theorem dX11_readItem_93 : decode cX11_readItem 93 = .ok (.bipush 109, 2) := by decide +kernel
theorem dX11_readItem_95 : decode cX11_readItem 95 = .ok (.bipush 111, 2) := by decide +kernel
theorem dX11_readItem_97 : decode cX11_readItem 97 = .ok (.bipush 114, 2) := by decide +kernel
theorem dX11_readItem_99 : decode cX11_readItem 99 = .ok (.bipush 101, 2) := by decide +kernel
theorem dX11_readItem_101 : decode cX11_readItem 101 = .ok (.iconst 0, 1) := by decide +kernel
theorem dX11_readItem_102 : decode cX11_readItem 102 = .ok (.iconst 0, 1) := by decide +kernel
theorem dX11_readItem_103 : decode cX11_readItem 103 = .ok (.iconst 0, 1) := by decide +kernel
theorem dX11_readItem_104 : decode cX11_readItem 104 = .ok (.invokevirtual 191, 3) := by decide +kernel
theorem dX11_readItem_107 : decode cX11_readItem 107 = .ok (.ifCond .eq 7, 3) := by decide +kernel
theorem dX11_readItem_110 : decode cX11_readItem 110 = .ok (.iconst 2, 1) := by decide +kernel
theorem dX11_readItem_111 : decode cX11_readItem 111 = .ok (.goto 27, 3) := by decide +kernel
theorem dX11_readItem_114 : decode cX11_readItem 114 = .ok (.aload_n 0, 1) := by decide +kernel
theorem dX11_readItem_115 : decode cX11_readItem 115 = .ok (.bipush 110, 2) := by decide +kernel
theorem dX11_readItem_117 : decode cX11_readItem 117 = .ok (.bipush 105, 2) := by decide +kernel
theorem dX11_readItem_119 : decode cX11_readItem 119 = .ok (.bipush 103, 2) := by decide +kernel
theorem dX11_readItem_121 : decode cX11_readItem 121 = .ok (.bipush 104, 2) := by decide +kernel
theorem dX11_readItem_123 : decode cX11_readItem 123 = .ok (.bipush 116, 2) := by decide +kernel
theorem dX11_readItem_125 : decode cX11_readItem 125 = .ok (.iconst 0, 1) := by decide +kernel
theorem dX11_readItem_126 : decode cX11_readItem 126 = .ok (.iconst 0, 1) := by decide +kernel
theorem dX11_readItem_127 : decode cX11_readItem 127 = .ok (.invokevirtual 191, 3) := by decide +kernel
theorem dX11_readItem_130 : decode cX11_readItem 130 = .ok (.ifCond .eq 7, 3) := by decide +kernel
theorem dX11_readItem_133 : decode cX11_readItem 133 = .ok (.iconst 3, 1) := by decide +kernel
theorem dX11_readItem_134 : decode cX11_readItem 134 = .ok (.goto 4, 3) := by decide +kernel
theorem dX11_readItem_137 : decode cX11_readItem 137 = .ok (.iconst (-1), 1) := by decide +kernel
theorem dX11_readItem_138 : decode cX11_readItem 138 = .ok (.istore_n 1, 1) := by decide +kernel
theorem dX11_readItem_139 : decode cX11_readItem 139 = .ok (.iload_n 1, 1) := by decide +kernel
theorem dX11_readItem_140 : decode cX11_readItem 140 = .ok (.iconst (-1), 1) := by decide +kernel
theorem dX11_readItem_141 : decode cX11_readItem 141 = .ok (.if_icmp .eq 15, 3) := by decide +kernel
theorem dX11_readItem_144 : decode cX11_readItem 144 = .ok (.aload_n 0, 1) := by decide +kernel
theorem dX11_readItem_145 : decode cX11_readItem 145 = .ok (.iload_n 1, 1) := by decide +kernel
theorem dX11_readItem_146 : decode cX11_readItem 146 = .ok (.invokevirtual 202, 3) := by decide +kernel
theorem dX11_readItem_149 : decode cX11_readItem 149 = .ok (.ifCond .eq 7, 3) := by decide +kernel
theorem dX11_readItem_152 : decode cX11_readItem 152 = .ok (.iconst 1, 1) := by decide +kernel
theorem dX11_readItem_153 : decode cX11_readItem 153 = .ok (.goto 4, 3) := by decide +kernel
theorem dX11_readItem_156 : decode cX11_readItem 156 = .ok (.iconst 0, 1) := by decide +kernel
theorem dX11_readItem_157 : decode cX11_readItem 157 = .ok (.ireturn, 1) := by decide +kernel
set_option maxRecDepth 20000 in
theorem ggX11_read_X11_look : GoodIn wsX11_read wsX11_look := goodIn_r _ [11, 5, 12, 4, 13, 14, 15, 16, 10, 17, 6, 18, 19, 20, 21, 22, 23, 24, 25, 26, 27, 28, 29, 30, 31, 32, 33, 34, 67, 68, 69, 70, 71, 72, 73, 74, 75, 76, 77, 78, 79, 80, 81, 82, 83, 84, 85, 86, 87, 88, 89, 90, 91] (by decide +kernel) (by decide +kernel)
set_option maxRecDepth 20000 in
theorem gX11_read_X11_look : GoodIn wsX11_read (wsV RX11 171 RX11 yX11_look wsX11_look) := goodIn_app (goodIn_of _ (by decide +kernel)) ggX11_read_X11_look
set_option maxRecDepth 20000 in
theorem ggX11_read_X11_readItem : GoodIn wsX11_read wsX11_readItem := goodIn_r _ [38, 39, 40, 41, 10, 42, 4, 12, 5, 18, 19, 20, 21, 6, 43, 44, 45, 46, 1, 3, 47, 48, 49, 50, 51, 7, 8, 9, 11, 13, 14, 15, 16, 17, 22, 23, 24, 25, 26, 27, 28, 29, 30, 31, 32, 33, 34, 52, 53, 54, 55, 56, 57, 58, 59, 2, 60, 61, 62, 63, 64, 65, 66, 67, 68, 69, 70, 71, 72, 73, 74, 75, 76, 77, 78, 79, 80, 81, 82, 83, 84, 85, 86, 87, 88, 89, 90, 91] (by decide +kernel) (by decide +kernel)
set_option maxRecDepth 20000 in
theorem gX11_read_X11_readItem : GoodIn wsX11_read (wsV RX11 205 RX11 yX11_readItem wsX11_readItem) := goodIn_app (goodIn_of _ (by decide +kernel)) ggX11_read_X11_readItem
set_option maxRecDepth 20000 in
theorem ggX11_read_X11_goOn : GoodIn wsX11_read wsX11_goOn := goodIn_r _ [51, 5, 12, 7, 8, 9, 10, 11, 4, 13, 14, 15, 16, 17, 6, 18, 19, 20, 21, 22, 23, 24, 25, 26, 27, 28, 29, 30, 31, 32, 33, 34, 67, 68, 69, 70, 71, 72, 73, 74, 75, 76, 77, 78, 79, 80, 81, 82, 83, 84, 85, 86, 87, 88, 89, 90, 91] (by decide +kernel) (by decide +kernel)
set_option maxRecDepth 20000 in
theorem gX11_read_X11_goOn : GoodIn wsX11_read (wsV RX11 178 RX11 yX11_goOn wsX11_goOn) := goodIn_app (goodIn_of _ (by decide +kernel)) ggX11_read_X11_goOn
theorem dX11_read_0 : decode cX11_read 0 = .ok (.aload_n 0, 1) := by decide +kernel
theorem dX11_read_1 : decode cX11_read 1 = .ok (.iconst 0, 1) := by decide +kernel
theorem dX11_read_2 : decode cX11_read 2 = .ok (.putfield 181, 3) := by decide +kernel
theorem dX11_read_5 : decode cX11_read 5 = .ok (.aload_n 0, 1) := by decide +kernel
theorem dX11_read_6 : decode cX11_read 6 = .ok (.iconst 0, 1) := by decide +kernel
theorem dX11_read_7 : decode cX11_read 7 = .ok (.putfield 188, 3) := by decide +kernel
theorem dX11_read_10 : decode cX11_read 10 = .ok (.aload_n 0, 1) := by decide +kernel
theorem dX11_read_11 : decode cX11_read 11 = .ok (.getfield 26, 3) := by decide +kernel
theorem dX11_read_14 : decode cX11_read 14 = .ok (.bipush 24, 2) := by decide +kernel
theorem dX11_read_16 : decode cX11_read 16 = .ok (.iconst 2, 1) := by decide +kernel
theorem dX11_read_17 : decode cX11_read 17 = .ok (.iastore, 1) := by decide +kernel
theorem dX11_read_18 : decode cX11_read 18 = .ok (.aload_n 0, 1) := by decide +kernel
theorem dX11_read_19 : decode cX11_read 19 = .ok (.getfield 26, 3) := by decide +kernel
theorem dX11_read_22 : decode cX11_read 22 = .ok (.bipush 25, 2) := by decide +kernel
theorem dX11_read_24 : decode cX11_read 24 = .ok (.bipush 120, 2) := by decide +kernel
theorem dX11_read_26 : decode cX11_read 26 = .ok (.iastore, 1) := by decide +kernel
theorem dX11_read_27 : decode cX11_read 27 = .ok (.aload_n 0, 1) := by decide +kernel
theorem dX11_read_28 : decode cX11_read 28 = .ok (.getfield 26, 3) := by decide +kernel
theorem dX11_read_31 : decode cX11_read 31 = .ok (.bipush 26, 2) := by decide +kernel
theorem dX11_read_33 : decode cX11_read 33 = .ok (.iconst 3, 1) := by decide +kernel
theorem dX11_read_34 : decode cX11_read 34 = .ok (.iastore, 1) := by decide +kernel
theorem dX11_read_35 : decode cX11_read 35 = .ok (.aload_n 0, 1) := by decide +kernel
theorem dX11_read_36 : decode cX11_read 36 = .ok (.getfield 26, 3) := by decide +kernel
theorem dX11_read_39 : decode cX11_read 39 = .ok (.bipush 27, 2) := by decide +kernel
theorem dX11_read_41 : decode cX11_read 41 = .ok (.sipush 180, 3) := by decide +kernel
theorem dX11_read_44 : decode cX11_read 44 = .ok (.iastore, 1) := by decide +kernel
theorem dX11_read_45 : decode cX11_read 45 = .ok (.aload_n 0, 1) := by decide +kernel
theorem dX11_read_46 : decode cX11_read 46 = .ok (.iconst 0, 1) := by decide +kernel
theorem dX11_read_47 : decode cX11_read 47 = .ok (.invokevirtual 171, 3) := by decide +kernel
theorem dX11_read_50 : decode cX11_read 50 = .ok (.aload_n 0, 1) := by decide +kernel
theorem dX11_read_51 : decode cX11_read 51 = .ok (.getfield 159, 3) := by decide +kernel
theorem dX11_read_54 : decode cX11_read 54 = .ok (.ifCond .eq 33, 3) := by decide +kernel
theorem dX11_read_57 : decode cX11_read 57 = .ok (.aload_n 0, 1) := by decide +kernel
theorem dX11_read_58 : decode cX11_read 58 = .ok (.invokevirtual 205, 3) := by decide +kernel
theorem dX11_read_61 : decode cX11_read 61 = .ok (.ifCond .eq 11, 3) := by decide +kernel
theorem dX11_read_64 : decode cX11_read 64 = .ok (.aload_n 0, 1) := by decide +kernel
theorem dX11_read_65 : decode cX11_read 65 = .ok (.getfield 159, 3) := by decide +kernel
theorem dX11_read_68 : decode cX11_read 68 = .ok (.iconst 3, 1) := by decide +kernel
theorem dX11_read_69 : decode cX11_read 69 = .ok (.if_icmp .eq 11, 3) := by decide +kernel
theorem dX11_read_72 : decode cX11_read 72 = .ok (.bipush (-10), 2) := by decide +kernel
theorem dX11_read_74 : decode cX11_read 74 = .ok (.aload_n 0, 1) := by decide +kernel
theorem dX11_read_75 : decode cX11_read 75 = .ok (.getfield 149, 3) := by decide +kernel
theorem dX11_read_78 : decode cX11_read 78 = .ok (.isub, 1) := by decide +kernel
theorem dX11_read_79 : decode cX11_read 79 = .ok (.ireturn, 1) := by decide +kernel
theorem dX11_read_80 : decode cX11_read 80 = .ok (.aload_n 0, 1) := by decide +kernel
theorem dX11_read_81 : decode cX11_read 81 = .ok (.invokevirtual 178, 3) := by decide +kernel
theorem dX11_read_84 : decode cX11_read 84 = .ok (.goto (-34), 3) := by decide +kernel
theorem dX11_read_87 : decode cX11_read 87 = .ok (.iconst 0, 1) := by decide +kernel
theorem dX11_read_88 : decode cX11_read 88 = .ok (.istore_n 1, 1) := by decide +kernel
theorem dX11_read_89 : decode cX11_read 89 = .ok (.iload_n 1, 1) := by decide +kernel
theorem dX11_read_90 : decode cX11_read 90 = .ok (.bipush 68, 2) := by decide +kernel
theorem dX11_read_92 : decode cX11_read 92 = .ok (.if_icmp .ge 21, 3) := by decide +kernel
theorem dX11_read_95 : decode cX11_read 95 = .ok (.aload_n 0, 1) := by decide +kernel
theorem dX11_read_96 : decode cX11_read 96 = .ok (.getfield 7, 3) := by decide +kernel
theorem dX11_read_99 : decode cX11_read 99 = .ok (.iload_n 1, 1) := by decide +kernel
theorem dX11_read_100 : decode cX11_read 100 = .ok (.aload_n 0, 1) := by decide +kernel
theorem dX11_read_101 : decode cX11_read 101 = .ok (.getfield 26, 3) := by decide +kernel
theorem dX11_read_104 : decode cX11_read 104 = .ok (.iload_n 1, 1) := by decide +kernel
theorem dX11_read_105 : decode cX11_read 105 = .ok (.iaload, 1) := by decide +kernel
theorem dX11_read_106 : decode cX11_read 106 = .ok (.iastore, 1) := by decide +kernel
theorem dX11_read_107 : decode cX11_read 107 = .ok (.iinc 1 1, 3) := by decide +kernel
theorem dX11_read_110 : decode cX11_read 110 = .ok (.goto (-21), 3) := by decide +kernel
theorem dX11_read_113 : decode cX11_read 113 = .ok (.aload_n 0, 1) := by decide +kernel
theorem dX11_read_114 : decode cX11_read 114 = .ok (.getfield 7, 3) := by decide +kernel
theorem dX11_read_117 : decode cX11_read 117 = .ok (.sipush 274, 3) := by decide +kernel
theorem dX11_read_120 : decode cX11_read 120 = .ok (.aload_n 0, 1) := by decide +kernel
theorem dX11_read_121 : decode cX11_read 121 = .ok (.getfield 181, 3) := by decide +kernel
theorem dX11_read_124 : decode cX11_read 124 = .ok (.iastore, 1) := by decide +kernel
theorem dX11_read_125 : decode cX11_read 125 = .ok (.aload_n 0, 1) := by decide +kernel
theorem dX11_read_126 : decode cX11_read 126 = .ok (.getfield 7, 3) := by decide +kernel
theorem dX11_read_129 : decode cX11_read 129 = .ok (.sipush 275, 3) := by decide +kernel
theorem dX11_read_132 : decode cX11_read 132 = .ok (.aload_n 0, 1) := by decide +kernel
theorem dX11_read_133 : decode cX11_read 133 = .ok (.getfield 188, 3) := by decide +kernel
theorem dX11_read_136 : decode cX11_read 136 = .ok (.iastore, 1) := by decide +kernel
theorem dX11_read_137 : decode cX11_read 137 = .ok (.aload_n 0, 1) := by decide +kernel
theorem dX11_read_138 : decode cX11_read 138 = .ok (.getfield 188, 3) := by decide +kernel
theorem dX11_read_141 : decode cX11_read 141 = .ok (.ireturn, 1) := by decide +kernel
set_option maxRecDepth 20000 in
theorem ggX11_judge_X11_carryNothing : GoodIn wsX11_judge wsX11_carryNothing := goodIn_r _ [7, 8, 55, 56, 57, 58, 59, 60, 61, 62, 63, 64, 65, 66, 67, 68, 69, 70, 71, 72, 73, 74, 75, 76, 77, 78, 79] (by decide +kernel) (by decide +kernel)
set_option maxRecDepth 20000 in
theorem gX11_judge_X11_carryNothing : GoodIn wsX11_judge (wsV RX11 128 RX11 yX11_carryNothing wsX11_carryNothing) := goodIn_app (goodIn_of _ (by decide +kernel)) ggX11_judge_X11_carryNothing
set_option maxRecDepth 20000 in
theorem ggX11_judge_X11_whyNot : GoodIn wsX11_judge wsX11_whyNot := goodIn_r _ [12, 13, 14, 15, 6, 16, 2, 17, 18, 19, 20, 21, 22, 23, 24, 25, 26, 27, 28, 29, 30, 31, 32, 33, 34, 35, 36, 37, 38, 39, 40, 41, 42, 8, 43, 44, 45, 46, 47, 48, 49, 50, 51, 52, 53, 54, 55, 56, 57, 58, 59, 60, 61, 62, 63, 64, 65, 66, 67, 68, 69, 70, 71, 72, 73, 74, 75, 76, 77, 78, 79] (by decide +kernel) (by decide +kernel)
set_option maxRecDepth 20000 in
theorem gX11_judge_X11_whyNot : GoodIn wsX11_judge (wsV RX11 131 RX11 yX11_whyNot wsX11_whyNot) := goodIn_app (goodIn_of _ (by decide +kernel)) ggX11_judge_X11_whyNot
set_option maxRecDepth 20000 in
theorem ggX11_judge_X11_timeOfSet : GoodIn wsX11_judge wsX11_timeOfSet := goodIn_r _ [50, 24, 25, 26, 6, 27, 2, 51, 52, 53, 54, 32, 33, 34, 35, 55, 56, 57, 58, 59, 60, 61, 62, 63, 64, 65, 66, 67, 68, 69, 70, 71, 72, 73, 74, 75, 76, 77, 78, 79] (by decide +kernel) (by decide +kernel)
set_option maxRecDepth 20000 in
theorem gX11_judge_X11_timeOfSet : GoodIn wsX11_judge (wsV RX11 122 RX11 yX11_timeOfSet wsX11_timeOfSet) := goodIn_app (goodIn_of _ (by decide +kernel)) ggX11_judge_X11_timeOfSet
theorem dX11_judge_0 : decode cX11_judge 0 = .ok (.aload_n 0, 1) := by decide +kernel
theorem dX11_judge_1 : decode cX11_judge 1 = .ok (.invokevirtual 128, 3) := by decide +kernel
theorem dX11_judge_4 : decode cX11_judge 4 = .ok (.aload_n 0, 1) := by decide +kernel
theorem dX11_judge_5 : decode cX11_judge 5 = .ok (.iconst 0, 1) := by decide +kernel
theorem dX11_judge_6 : decode cX11_judge 6 = .ok (.putfield 208, 3) := by decide +kernel
theorem dX11_judge_9 : decode cX11_judge 9 = .ok (.iconst 0, 1) := by decide +kernel
theorem dX11_judge_10 : decode cX11_judge 10 = .ok (.istore_n 1, 1) := by decide +kernel
theorem dX11_judge_11 : decode cX11_judge 11 = .ok (.iconst 0, 1) := by decide +kernel
theorem dX11_judge_12 : decode cX11_judge 12 = .ok (.istore_n 2, 1) := by decide +kernel
theorem dX11_judge_13 : decode cX11_judge 13 = .ok (.iload_n 2, 1) := by decide +kernel
theorem dX11_judge_14 : decode cX11_judge 14 = .ok (.aload_n 0, 1) := by decide +kernel
theorem dX11_judge_15 : decode cX11_judge 15 = .ok (.getfield 7, 3) := by decide +kernel
theorem dX11_judge_18 : decode cX11_judge 18 = .ok (.sipush 275, 3) := by decide +kernel
theorem dX11_judge_21 : decode cX11_judge 21 = .ok (.iaload, 1) := by decide +kernel
theorem dX11_judge_22 : decode cX11_judge 22 = .ok (.if_icmp .ge 125, 3) := by decide +kernel
theorem dX11_judge_25 : decode cX11_judge 25 = .ok (.aload_n 0, 1) := by decide +kernel
theorem dX11_judge_26 : decode cX11_judge 26 = .ok (.getfield 7, 3) := by decide +kernel
theorem dX11_judge_29 : decode cX11_judge 29 = .ok (.bipush 28, 2) := by decide +kernel
theorem dX11_judge_31 : decode cX11_judge 31 = .ok (.iconst 2, 1) := by decide +kernel
theorem dX11_judge_32 : decode cX11_judge 32 = .ok (.iload_n 2, 1) := by decide +kernel
theorem dX11_judge_33 : decode cX11_judge 33 = .ok (.imul, 1) := by decide +kernel
theorem dX11_judge_34 : decode cX11_judge 34 = .ok (.iadd, 1) := by decide +kernel
theorem dX11_judge_35 : decode cX11_judge 35 = .ok (.iaload, 1) := by decide +kernel
theorem dX11_judge_36 : decode cX11_judge 36 = .ok (.istore_n 3, 1) := by decide +kernel
theorem dX11_judge_37 : decode cX11_judge 37 = .ok (.aload_n 0, 1) := by decide +kernel
theorem dX11_judge_38 : decode cX11_judge 38 = .ok (.getfield 7, 3) := by decide +kernel
theorem dX11_judge_41 : decode cX11_judge 41 = .ok (.bipush 28, 2) := by decide +kernel
theorem dX11_judge_43 : decode cX11_judge 43 = .ok (.iconst 2, 1) := by decide +kernel
theorem dX11_judge_44 : decode cX11_judge 44 = .ok (.iload_n 2, 1) := by decide +kernel
theorem dX11_judge_45 : decode cX11_judge 45 = .ok (.imul, 1) := by decide +kernel
theorem dX11_judge_46 : decode cX11_judge 46 = .ok (.iadd, 1) := by decide +kernel
theorem dX11_judge_47 : decode cX11_judge 47 = .ok (.iconst 1, 1) := by decide +kernel
theorem dX11_judge_48 : decode cX11_judge 48 = .ok (.iadd, 1) := by decide +kernel
theorem dX11_judge_49 : decode cX11_judge 49 = .ok (.iaload, 1) := by decide +kernel
theorem dX11_judge_50 : decode cX11_judge 50 = .ok (.istore 4, 2) := by decide +kernel
theorem dX11_judge_52 : decode cX11_judge 52 = .ok (.aload_n 0, 1) := by decide +kernel
theorem dX11_judge_53 : decode cX11_judge 53 = .ok (.getfield 208, 3) := by decide +kernel
theorem dX11_judge_56 : decode cX11_judge 56 = .ok (.iload 4, 2) := by decide +kernel
theorem dX11_judge_58 : decode cX11_judge 58 = .ok (.iand, 1) := by decide +kernel
theorem dX11_judge_59 : decode cX11_judge 59 = .ok (.ifCond .eq 15, 3) := by decide +kernel
theorem dX11_judge_62 : decode cX11_judge 62 = .ok (.aload_n 0, 1) := by decide +kernel
theorem dX11_judge_63 : decode cX11_judge 63 = .ok (.getfield 208, 3) := by decide +kernel
theorem dX11_judge_66 : decode cX11_judge 66 = .ok (.iload 4, 2) := by decide +kernel
theorem dX11_judge_68 : decode cX11_judge 68 = .ok (.iand, 1) := by decide +kernel
theorem dX11_judge_69 : decode cX11_judge 69 = .ok (.iload 4, 2) := by decide +kernel
theorem dX11_judge_71 : decode cX11_judge 71 = .ok (.if_icmp .ne 7, 3) := by decide +kernel
theorem dX11_judge_74 : decode cX11_judge 74 = .ok (.iconst 1, 1) := by decide +kernel
theorem dX11_judge_75 : decode cX11_judge 75 = .ok (.goto 4, 3) := by decide +kernel
theorem dX11_judge_78 : decode cX11_judge 78 = .ok (.iconst 0, 1) := by decide +kernel
theorem dX11_judge_79 : decode cX11_judge 79 = .ok (.istore 5, 2) := by decide +kernel
theorem dX11_judge_81 : decode cX11_judge 81 = .ok (.iload_n 3, 1) := by decide +kernel
theorem dX11_judge_82 : decode cX11_judge 82 = .ok (.iload_n 1, 1) := by decide +kernel
theorem dX11_judge_83 : decode cX11_judge 83 = .ok (.if_icmp .ge 7, 3) := by decide +kernel
theorem dX11_judge_86 : decode cX11_judge 86 = .ok (.iconst 1, 1) := by decide +kernel
theorem dX11_judge_87 : decode cX11_judge 87 = .ok (.goto 19, 3) := by decide +kernel
theorem dX11_judge_90 : decode cX11_judge 90 = .ok (.iload 5, 2) := by decide +kernel
theorem dX11_judge_92 : decode cX11_judge 92 = .ok (.ifCond .ne 7, 3) := by decide +kernel
theorem dX11_judge_95 : decode cX11_judge 95 = .ok (.iconst 2, 1) := by decide +kernel
theorem dX11_judge_96 : decode cX11_judge 96 = .ok (.goto 10, 3) := by decide +kernel
theorem dX11_judge_99 : decode cX11_judge 99 = .ok (.aload_n 0, 1) := by decide +kernel
theorem dX11_judge_100 : decode cX11_judge 100 = .ok (.iload 4, 2) := by decide +kernel
theorem dX11_judge_102 : decode cX11_judge 102 = .ok (.iload_n 3, 1) := by decide +kernel
theorem dX11_judge_103 : decode cX11_judge 103 = .ok (.invokevirtual 131, 3) := by decide +kernel
theorem dX11_judge_106 : decode cX11_judge 106 = .ok (.istore 6, 2) := by decide +kernel
theorem dX11_judge_108 : decode cX11_judge 108 = .ok (.iload 6, 2) := by decide +kernel
theorem dX11_judge_110 : decode cX11_judge 110 = .ok (.ifCond .le 11, 3) := by decide +kernel
theorem dX11_judge_113 : decode cX11_judge 113 = .ok (.bipush 10, 2) := by decide +kernel
theorem dX11_judge_115 : decode cX11_judge 115 = .ok (.iload_n 2, 1) := by decide +kernel
theorem dX11_judge_116 : decode cX11_judge 116 = .ok (.imul, 1) := by decide +kernel
theorem dX11_judge_117 : decode cX11_judge 117 = .ok (.iload 6, 2) := by decide +kernel
theorem dX11_judge_119 : decode cX11_judge 119 = .ok (.iadd, 1) := by decide +kernel
theorem dX11_judge_120 : decode cX11_judge 120 = .ok (.ireturn, 1) := by decide +kernel
theorem dX11_judge_121 : decode cX11_judge 121 = .ok (.iload_n 3, 1) := by decide +kernel
theorem dX11_judge_122 : decode cX11_judge 122 = .ok (.aload_n 0, 1) := by decide +kernel
theorem dX11_judge_123 : decode cX11_judge 123 = .ok (.iload 4, 2) := by decide +kernel
theorem dX11_judge_125 : decode cX11_judge 125 = .ok (.invokevirtual 122, 3) := by decide +kernel
theorem dX11_judge_128 : decode cX11_judge 128 = .ok (.iadd, 1) := by decide +kernel
theorem dX11_judge_129 : decode cX11_judge 129 = .ok (.istore_n 1, 1) := by decide +kernel
theorem dX11_judge_130 : decode cX11_judge 130 = .ok (.aload_n 0, 1) := by decide +kernel
theorem dX11_judge_131 : decode cX11_judge 131 = .ok (.dup, 1) := by decide +kernel
theorem dX11_judge_132 : decode cX11_judge 132 = .ok (.getfield 208, 3) := by decide +kernel
theorem dX11_judge_135 : decode cX11_judge 135 = .ok (.iload 4, 2) := by decide +kernel
theorem dX11_judge_137 : decode cX11_judge 137 = .ok (.ixor, 1) := by decide +kernel
theorem dX11_judge_138 : decode cX11_judge 138 = .ok (.putfield 208, 3) := by decide +kernel
theorem dX11_judge_141 : decode cX11_judge 141 = .ok (.iinc 2 1, 3) := by decide +kernel
theorem dX11_judge_144 : decode cX11_judge 144 = .ok (.goto (-131), 3) := by decide +kernel
theorem dX11_judge_147 : decode cX11_judge 147 = .ok (.iconst (-1), 1) := by decide +kernel
theorem dX11_judge_148 : decode cX11_judge 148 = .ok (.ireturn, 1) := by decide +kernel
set_option maxRecDepth 20000 in
theorem ggX11_judged_X11_judge : GoodIn wsX11_judged wsX11_judge := goodIn_r _ [5, 6, 7, 8, 9, 10, 4, 11, 12, 13, 14, 15, 16, 17, 18, 19, 20, 21, 22, 23, 24, 25, 26, 27, 28, 29, 30, 31, 32, 33, 34, 35, 36, 37, 38, 39, 40, 41, 42, 43, 44, 45, 46, 47, 48, 49, 50, 51, 52, 53, 54, 55, 56, 57, 58, 59, 60, 61, 62, 63, 64, 65, 66, 67, 68, 69, 70, 71, 72, 73, 74, 75, 76, 77, 78, 79, 80, 81, 82, 83] (by decide +kernel) (by decide +kernel)
set_option maxRecDepth 20000 in
theorem gX11_judged_X11_judge : GoodIn wsX11_judged (wsV RX11 211 RX11 yX11_judge wsX11_judge) := goodIn_app (goodIn_of _ (by decide +kernel)) ggX11_judged_X11_judge
theorem dX11_judged_0 : decode cX11_judged 0 = .ok (.aload_n 0, 1) := by decide +kernel
theorem dX11_judged_1 : decode cX11_judged 1 = .ok (.invokevirtual 211, 3) := by decide +kernel
theorem dX11_judged_4 : decode cX11_judged 4 = .ok (.ireturn, 1) := by decide +kernel
set_option maxRecDepth 20000 in
theorem ggX11_there_X11_judge : GoodIn wsX11_there wsX11_judge := goodIn_r _ [6, 1, 7, 8, 9, 10, 5, 11, 12, 13, 14, 15, 16, 17, 18, 19, 20, 21, 22, 23, 24, 25, 26, 27, 28, 29, 30, 31, 32, 33, 34, 35, 36, 37, 38, 39, 40, 41, 42, 43, 44, 45, 46, 47, 48, 49, 50, 51, 52, 53, 54, 55, 56, 57, 58, 59, 60, 61, 62, 63, 64, 65, 66, 67, 68, 69, 70, 71, 72, 73, 74, 75, 76, 77, 78, 79, 80, 81, 82, 83] (by decide +kernel) (by decide +kernel)
set_option maxRecDepth 20000 in
theorem gX11_there_X11_judge : GoodIn wsX11_there (wsV RX11 211 RX11 yX11_judge wsX11_judge) := goodIn_app (goodIn_of _ (by decide +kernel)) ggX11_there_X11_judge
theorem dX11_there_0 : decode cX11_there 0 = .ok (.aload_n 0, 1) := by decide +kernel
theorem dX11_there_1 : decode cX11_there 1 = .ok (.invokevirtual 211, 3) := by decide +kernel
theorem dX11_there_4 : decode cX11_there 4 = .ok (.istore_n 1, 1) := by decide +kernel
theorem dX11_there_5 : decode cX11_there 5 = .ok (.aload_n 0, 1) := by decide +kernel
theorem dX11_there_6 : decode cX11_there 6 = .ok (.getfield 208, 3) := by decide +kernel
theorem dX11_there_9 : decode cX11_there 9 = .ok (.ireturn, 1) := by decide +kernel
theorem dX11_at_0 : decode cX11_at 0 = .ok (.bipush 64, 2) := by decide +kernel
theorem dX11_at_2 : decode cX11_at 2 = .ok (.iload_n 0, 1) := by decide +kernel
theorem dX11_at_3 : decode cX11_at 3 = .ok (.imul, 1) := by decide +kernel
theorem dX11_at_4 : decode cX11_at 4 = .ok (.iload_n 1, 1) := by decide +kernel
theorem dX11_at_5 : decode cX11_at 5 = .ok (.iadd, 1) := by decide +kernel
theorem dX11_at_6 : decode cX11_at 6 = .ok (.ireturn, 1) := by decide +kernel
set_option maxRecDepth 20000 in
theorem ggX11_hireOf_X11_porters : GoodIn wsX11_hireOf wsX11_porters := goodIn_r _ [5, 6, 11, 12, 13, 14, 15, 16, 17, 18, 19, 20, 21, 22, 23, 24, 25, 26, 27, 28, 29, 30, 31, 32, 33, 34, 35] (by decide +kernel) (by decide +kernel)
set_option maxRecDepth 20000 in
theorem gX11_hireOf_X11_porters : GoodIn wsX11_hireOf (wsV RX11 53 RX11 yX11_porters wsX11_porters) := goodIn_app (goodIn_of _ (by decide +kernel)) ggX11_hireOf_X11_porters
set_option maxRecDepth 20000 in
theorem ggX11_hireOf_X11_told : GoodIn wsX11_hireOf wsX11_told := goodIn_r _ [10, 6, 11, 12, 13, 14, 15, 16, 17, 18, 19, 20, 21, 22, 23, 24, 25, 26, 27, 28, 29, 30, 31, 32, 33, 34, 35] (by decide +kernel) (by decide +kernel)
set_option maxRecDepth 20000 in
theorem gX11_hireOf_X11_told : GoodIn wsX11_hireOf (wsV RX11 88 RX11 yX11_told wsX11_told) := goodIn_app (goodIn_of _ (by decide +kernel)) ggX11_hireOf_X11_told
theorem dX11_hireOf_0 : decode cX11_hireOf 0 = .ok (.iconst 0, 1) := by decide +kernel
theorem dX11_hireOf_1 : decode cX11_hireOf 1 = .ok (.istore_n 2, 1) := by decide +kernel
theorem dX11_hireOf_2 : decode cX11_hireOf 2 = .ok (.iconst 0, 1) := by decide +kernel
theorem dX11_hireOf_3 : decode cX11_hireOf 3 = .ok (.istore_n 3, 1) := by decide +kernel
theorem dX11_hireOf_4 : decode cX11_hireOf 4 = .ok (.iload_n 3, 1) := by decide +kernel
theorem dX11_hireOf_5 : decode cX11_hireOf 5 = .ok (.aload_n 0, 1) := by decide +kernel
theorem dX11_hireOf_6 : decode cX11_hireOf 6 = .ok (.invokevirtual 53, 3) := by decide +kernel
theorem dX11_hireOf_9 : decode cX11_hireOf 9 = .ok (.if_icmp .ge 31, 3) := by decide +kernel
theorem dX11_hireOf_12 : decode cX11_hireOf 12 = .ok (.iload_n 2, 1) := by decide +kernel
theorem dX11_hireOf_13 : decode cX11_hireOf 13 = .ok (.iload_n 1, 1) := by decide +kernel
theorem dX11_hireOf_14 : decode cX11_hireOf 14 = .ok (.iload_n 3, 1) := by decide +kernel
theorem dX11_hireOf_15 : decode cX11_hireOf 15 = .ok (.ishr, 1) := by decide +kernel
theorem dX11_hireOf_16 : decode cX11_hireOf 16 = .ok (.iconst 1, 1) := by decide +kernel
theorem dX11_hireOf_17 : decode cX11_hireOf 17 = .ok (.iand, 1) := by decide +kernel
theorem dX11_hireOf_18 : decode cX11_hireOf 18 = .ok (.iconst 1, 1) := by decide +kernel
theorem dX11_hireOf_19 : decode cX11_hireOf 19 = .ok (.if_icmp .ne 12, 3) := by decide +kernel
theorem dX11_hireOf_22 : decode cX11_hireOf 22 = .ok (.aload_n 0, 1) := by decide +kernel
theorem dX11_hireOf_23 : decode cX11_hireOf 23 = .ok (.iload_n 3, 1) := by decide +kernel
theorem dX11_hireOf_24 : decode cX11_hireOf 24 = .ok (.iconst 2, 1) := by decide +kernel
theorem dX11_hireOf_25 : decode cX11_hireOf 25 = .ok (.invokevirtual 88, 3) := by decide +kernel
theorem dX11_hireOf_28 : decode cX11_hireOf 28 = .ok (.goto 4, 3) := by decide +kernel
theorem dX11_hireOf_31 : decode cX11_hireOf 31 = .ok (.iconst 0, 1) := by decide +kernel
theorem dX11_hireOf_32 : decode cX11_hireOf 32 = .ok (.iadd, 1) := by decide +kernel
theorem dX11_hireOf_33 : decode cX11_hireOf 33 = .ok (.istore_n 2, 1) := by decide +kernel
theorem dX11_hireOf_34 : decode cX11_hireOf 34 = .ok (.iinc 3 1, 3) := by decide +kernel
theorem dX11_hireOf_37 : decode cX11_hireOf 37 = .ok (.goto (-33), 3) := by decide +kernel
theorem dX11_hireOf_40 : decode cX11_hireOf 40 = .ok (.iload_n 2, 1) := by decide +kernel
theorem dX11_hireOf_41 : decode cX11_hireOf 41 = .ok (.ireturn, 1) := by decide +kernel
set_option maxRecDepth 20000 in
theorem ggX11_mayCross_X11_manyIn : GoodIn wsX11_mayCross wsX11_manyIn := goodIn_r _ [5] (by decide +kernel) (by decide +kernel)
set_option maxRecDepth 20000 in
theorem gX11_mayCross_X11_manyIn : GoodIn wsX11_mayCross (va_wsS RX11 108 yX11_manyIn wsX11_manyIn) := goodIn_app (goodIn_of _ (by decide +kernel)) ggX11_mayCross_X11_manyIn
set_option maxRecDepth 20000 in
theorem ggX11_mayCross_X11_whyNot : GoodIn wsX11_mayCross wsX11_whyNot := goodIn_r _ [9, 10, 11, 12, 4, 13, 14, 2, 3, 5, 15, 16, 17, 18, 19, 20, 21, 22, 23, 24, 25, 26, 27, 28, 29, 30, 31, 32, 33, 34, 35, 36, 37, 38, 39, 40, 41, 42, 43, 44, 45, 46, 47, 48, 49, 50, 51, 52, 53, 54, 55, 56, 57, 58, 59, 60, 61, 62, 63, 64, 65, 66, 67, 68, 69, 70, 71, 72, 73, 74, 75] (by decide +kernel) (by decide +kernel)
set_option maxRecDepth 20000 in
theorem gX11_mayCross_X11_whyNot : GoodIn wsX11_mayCross (wsV RX11 131 RX11 yX11_whyNot wsX11_whyNot) := goodIn_app (goodIn_of _ (by decide +kernel)) ggX11_mayCross_X11_whyNot
theorem dX11_mayCross_0 : decode cX11_mayCross 0 = .ok (.iload_n 2, 1) := by decide +kernel
theorem dX11_mayCross_1 : decode cX11_mayCross 1 = .ok (.iload_n 1, 1) := by decide +kernel
theorem dX11_mayCross_2 : decode cX11_mayCross 2 = .ok (.iand, 1) := by decide +kernel
theorem dX11_mayCross_3 : decode cX11_mayCross 3 = .ok (.ifCond .eq 10, 3) := by decide +kernel
theorem dX11_mayCross_6 : decode cX11_mayCross 6 = .ok (.iload_n 2, 1) := by decide +kernel
theorem dX11_mayCross_7 : decode cX11_mayCross 7 = .ok (.iload_n 1, 1) := by decide +kernel
theorem dX11_mayCross_8 : decode cX11_mayCross 8 = .ok (.iand, 1) := by decide +kernel
theorem dX11_mayCross_9 : decode cX11_mayCross 9 = .ok (.iload_n 1, 1) := by decide +kernel
theorem dX11_mayCross_10 : decode cX11_mayCross 10 = .ok (.if_icmp .ne 7, 3) := by decide +kernel
theorem dX11_mayCross_13 : decode cX11_mayCross 13 = .ok (.iconst 1, 1) := by decide +kernel
theorem dX11_mayCross_14 : decode cX11_mayCross 14 = .ok (.goto 4, 3) := by decide +kernel
theorem dX11_mayCross_17 : decode cX11_mayCross 17 = .ok (.iconst 0, 1) := by decide +kernel
theorem dX11_mayCross_18 : decode cX11_mayCross 18 = .ok (.istore 4, 2) := by decide +kernel
theorem dX11_mayCross_20 : decode cX11_mayCross 20 = .ok (.iload 4, 2) := by decide +kernel
theorem dX11_mayCross_22 : decode cX11_mayCross 22 = .ok (.ifCond .eq 35, 3) := by decide +kernel
theorem dX11_mayCross_25 : decode cX11_mayCross 25 = .ok (.iload_n 1, 1) := by decide +kernel
theorem dX11_mayCross_26 : decode cX11_mayCross 26 = .ok (.aload_n 0, 1) := by decide +kernel
theorem dX11_mayCross_27 : decode cX11_mayCross 27 = .ok (.getfield 214, 3) := by decide +kernel
theorem dX11_mayCross_30 : decode cX11_mayCross 30 = .ok (.ishr, 1) := by decide +kernel
theorem dX11_mayCross_31 : decode cX11_mayCross 31 = .ok (.iconst 1, 1) := by decide +kernel
theorem dX11_mayCross_32 : decode cX11_mayCross 32 = .ok (.iand, 1) := by decide +kernel
theorem dX11_mayCross_33 : decode cX11_mayCross 33 = .ok (.ifCond .ne 24, 3) := by decide +kernel
theorem dX11_mayCross_36 : decode cX11_mayCross 36 = .ok (.iload_n 1, 1) := by decide +kernel
theorem dX11_mayCross_37 : decode cX11_mayCross 37 = .ok (.invokestatic 108, 3) := by decide +kernel
theorem dX11_mayCross_40 : decode cX11_mayCross 40 = .ok (.iconst 3, 1) := by decide +kernel
theorem dX11_mayCross_41 : decode cX11_mayCross 41 = .ok (.if_icmp .ge 16, 3) := by decide +kernel
theorem dX11_mayCross_44 : decode cX11_mayCross 44 = .ok (.aload_n 0, 1) := by decide +kernel
theorem dX11_mayCross_45 : decode cX11_mayCross 45 = .ok (.iload_n 1, 1) := by decide +kernel
theorem dX11_mayCross_46 : decode cX11_mayCross 46 = .ok (.iload_n 3, 1) := by decide +kernel
theorem dX11_mayCross_47 : decode cX11_mayCross 47 = .ok (.invokevirtual 131, 3) := by decide +kernel
theorem dX11_mayCross_50 : decode cX11_mayCross 50 = .ok (.ifCond .ne 7, 3) := by decide +kernel
theorem dX11_mayCross_53 : decode cX11_mayCross 53 = .ok (.iconst 1, 1) := by decide +kernel
theorem dX11_mayCross_54 : decode cX11_mayCross 54 = .ok (.goto 4, 3) := by decide +kernel
theorem dX11_mayCross_57 : decode cX11_mayCross 57 = .ok (.iconst 0, 1) := by decide +kernel
theorem dX11_mayCross_58 : decode cX11_mayCross 58 = .ok (.ireturn, 1) := by decide +kernel
set_option maxRecDepth 20000 in
theorem ggX11_findHire_X11_at : GoodIn wsX11_findHire wsX11_at := goodIn_r _ [6] (by decide +kernel) (by decide +kernel)
set_option maxRecDepth 20000 in
theorem gX11_findHire_X11_at : GoodIn wsX11_findHire (va_wsS RX11 217 yX11_at wsX11_at) := goodIn_app (goodIn_of _ (by decide +kernel)) ggX11_findHire_X11_at
set_option maxRecDepth 20000 in
theorem ggX11_findHire_X11_all : GoodIn wsX11_findHire wsX11_all := goodIn_r _ [10, 11, 12, 13, 5, 14, 15, 72, 73, 74, 75, 76, 77, 78, 79, 80, 81, 82, 83, 84, 85, 86, 87, 88, 89, 90, 91, 92, 93, 94, 95, 96] (by decide +kernel) (by decide +kernel)
set_option maxRecDepth 20000 in
theorem gX11_findHire_X11_all : GoodIn wsX11_findHire (wsV RX11 125 RX11 yX11_all wsX11_all) := goodIn_app (goodIn_of _ (by decide +kernel)) ggX11_findHire_X11_all
set_option maxRecDepth 20000 in
theorem ggX11_findHire_X11_manyIn : GoodIn wsX11_findHire wsX11_manyIn := goodIn_r _ [18] (by decide +kernel) (by decide +kernel)
set_option maxRecDepth 20000 in
theorem gX11_findHire_X11_manyIn : GoodIn wsX11_findHire (va_wsS RX11 108 yX11_manyIn wsX11_manyIn) := goodIn_app (goodIn_of _ (by decide +kernel)) ggX11_findHire_X11_manyIn
set_option maxRecDepth 20000 in
theorem ggX11_findHire_X11_timeOfSet : GoodIn wsX11_findHire wsX11_timeOfSet := goodIn_r _ [22, 11, 12, 13, 5, 14, 15, 23, 24, 25, 26, 27, 28, 29, 30, 72, 73, 74, 75, 76, 77, 78, 79, 80, 81, 82, 83, 84, 85, 86, 87, 88, 89, 90, 91, 92, 93, 94, 95, 96] (by decide +kernel) (by decide +kernel)
set_option maxRecDepth 20000 in
theorem gX11_findHire_X11_timeOfSet : GoodIn wsX11_findHire (wsV RX11 122 RX11 yX11_timeOfSet wsX11_timeOfSet) := goodIn_app (goodIn_of _ (by decide +kernel)) ggX11_findHire_X11_timeOfSet
set_option maxRecDepth 20000 in
theorem ggX11_findHire_X11_goBack : GoodIn wsX11_findHire wsX11_goBack := goodIn_r _ [34, 1, 2, 7, 8, 9, 5, 10, 11, 12, 13, 14, 15, 3, 4, 6, 35, 36, 37, 38, 39, 16, 17, 18, 40, 41, 42, 43, 44, 45, 46, 47, 48, 49, 50, 51, 52, 53, 54, 55, 27, 28, 29, 30, 56, 57, 58, 59, 60, 61, 62, 63, 64, 65, 66, 67, 19, 20, 21, 22, 23, 24, 25, 26, 68, 69, 70, 71, 72, 73, 74, 75, 76, 77, 78, 79, 80, 81, 82, 83, 84, 85, 86, 87, 88, 89, 90, 91, 92, 93, 94, 95, 96] (by decide +kernel) (by decide +kernel)
set_option maxRecDepth 20000 in
theorem gX11_findHire_X11_goBack : GoodIn wsX11_findHire (wsV RX11 221 RX11 yX11_goBack wsX11_goBack) := goodIn_app (goodIn_of _ (by decide +kernel)) ggX11_findHire_X11_goBack
theorem dX11_findHire_0 : decode cX11_findHire 0 = .ok (.iconst 0, 1) := by decide +kernel
theorem dX11_findHire_1 : decode cX11_findHire 1 = .ok (.istore_n 3, 1) := by decide +kernel
theorem dX11_findHire_2 : decode cX11_findHire 2 = .ok (.iload_n 3, 1) := by decide +kernel
theorem dX11_findHire_3 : decode cX11_findHire 3 = .ok (.bipush 64, 2) := by decide +kernel
theorem dX11_findHire_5 : decode cX11_findHire 5 = .ok (.if_icmp .ge 32, 3) := by decide +kernel
theorem dX11_findHire_8 : decode cX11_findHire 8 = .ok (.aload_n 0, 1) := by decide +kernel
theorem dX11_findHire_9 : decode cX11_findHire 9 = .ok (.getfield 29, 3) := by decide +kernel
theorem dX11_findHire_12 : decode cX11_findHire 12 = .ok (.iload_n 2, 1) := by decide +kernel
theorem dX11_findHire_13 : decode cX11_findHire 13 = .ok (.iload_n 3, 1) := by decide +kernel
theorem dX11_findHire_14 : decode cX11_findHire 14 = .ok (.invokestatic 217, 3) := by decide +kernel
theorem dX11_findHire_17 : decode cX11_findHire 17 = .ok (.iload_n 3, 1) := by decide +kernel
theorem dX11_findHire_18 : decode cX11_findHire 18 = .ok (.iload_n 1, 1) := by decide +kernel
theorem dX11_findHire_19 : decode cX11_findHire 19 = .ok (.iand, 1) := by decide +kernel
theorem dX11_findHire_20 : decode cX11_findHire 20 = .ok (.iload_n 1, 1) := by decide +kernel
theorem dX11_findHire_21 : decode cX11_findHire 21 = .ok (.if_icmp .ne 7, 3) := by decide +kernel
theorem dX11_findHire_24 : decode cX11_findHire 24 = .ok (.iconst 0, 1) := by decide +kernel
theorem dX11_findHire_25 : decode cX11_findHire 25 = .ok (.goto 5, 3) := by decide +kernel
theorem dX11_findHire_28 : decode cX11_findHire 28 = .ok (.ldc 220, 2) := by decide +kernel
theorem dX11_findHire_30 : decode cX11_findHire 30 = .ok (.iastore, 1) := by decide +kernel
theorem dX11_findHire_31 : decode cX11_findHire 31 = .ok (.iinc 3 1, 3) := by decide +kernel
theorem dX11_findHire_34 : decode cX11_findHire 34 = .ok (.goto (-32), 3) := by decide +kernel
theorem dX11_findHire_37 : decode cX11_findHire 37 = .ok (.iload_n 2, 1) := by decide +kernel
theorem dX11_findHire_38 : decode cX11_findHire 38 = .ok (.iconst 1, 1) := by decide +kernel
theorem dX11_findHire_39 : decode cX11_findHire 39 = .ok (.isub, 1) := by decide +kernel
theorem dX11_findHire_40 : decode cX11_findHire 40 = .ok (.istore_n 3, 1) := by decide +kernel
theorem dX11_findHire_41 : decode cX11_findHire 41 = .ok (.iload_n 3, 1) := by decide +kernel
theorem dX11_findHire_42 : decode cX11_findHire 42 = .ok (.ifCond .lt 109, 3) := by decide +kernel
theorem dX11_findHire_45 : decode cX11_findHire 45 = .ok (.iconst 0, 1) := by decide +kernel
theorem dX11_findHire_46 : decode cX11_findHire 46 = .ok (.istore 4, 2) := by decide +kernel
theorem dX11_findHire_48 : decode cX11_findHire 48 = .ok (.iload 4, 2) := by decide +kernel
theorem dX11_findHire_50 : decode cX11_findHire 50 = .ok (.aload_n 0, 1) := by decide +kernel
theorem dX11_findHire_51 : decode cX11_findHire 51 = .ok (.invokevirtual 125, 3) := by decide +kernel
theorem dX11_findHire_54 : decode cX11_findHire 54 = .ok (.if_icmp .gt 33, 3) := by decide +kernel
theorem dX11_findHire_57 : decode cX11_findHire 57 = .ok (.aload_n 0, 1) := by decide +kernel
theorem dX11_findHire_58 : decode cX11_findHire 58 = .ok (.getfield 29, 3) := by decide +kernel
theorem dX11_findHire_61 : decode cX11_findHire 61 = .ok (.iload_n 3, 1) := by decide +kernel
theorem dX11_findHire_62 : decode cX11_findHire 62 = .ok (.iload 4, 2) := by decide +kernel
theorem dX11_findHire_64 : decode cX11_findHire 64 = .ok (.invokestatic 217, 3) := by decide +kernel
theorem dX11_findHire_67 : decode cX11_findHire 67 = .ok (.aload_n 0, 1) := by decide +kernel
theorem dX11_findHire_68 : decode cX11_findHire 68 = .ok (.getfield 29, 3) := by decide +kernel
theorem dX11_findHire_71 : decode cX11_findHire 71 = .ok (.iload_n 3, 1) := by decide +kernel
theorem dX11_findHire_72 : decode cX11_findHire 72 = .ok (.iconst 1, 1) := by decide +kernel
theorem dX11_findHire_73 : decode cX11_findHire 73 = .ok (.iadd, 1) := by decide +kernel
theorem dX11_findHire_74 : decode cX11_findHire 74 = .ok (.iload 4, 2) := by decide +kernel
theorem dX11_findHire_76 : decode cX11_findHire 76 = .ok (.invokestatic 217, 3) := by decide +kernel
theorem dX11_findHire_79 : decode cX11_findHire 79 = .ok (.iaload, 1) := by decide +kernel
theorem dX11_findHire_80 : decode cX11_findHire 80 = .ok (.iastore, 1) := by decide +kernel
theorem dX11_findHire_81 : decode cX11_findHire 81 = .ok (.iinc 4 1, 3) := by decide +kernel
theorem dX11_findHire_84 : decode cX11_findHire 84 = .ok (.goto (-36), 3) := by decide +kernel
theorem dX11_findHire_87 : decode cX11_findHire 87 = .ok (.iconst 1, 1) := by decide +kernel
theorem dX11_findHire_88 : decode cX11_findHire 88 = .ok (.istore 4, 2) := by decide +kernel
theorem dX11_findHire_90 : decode cX11_findHire 90 = .ok (.iload 4, 2) := by decide +kernel
theorem dX11_findHire_92 : decode cX11_findHire 92 = .ok (.aload_n 0, 1) := by decide +kernel
theorem dX11_findHire_93 : decode cX11_findHire 93 = .ok (.invokevirtual 125, 3) := by decide +kernel
theorem dX11_findHire_96 : decode cX11_findHire 96 = .ok (.if_icmp .gt 49, 3) := by decide +kernel
theorem dX11_findHire_99 : decode cX11_findHire 99 = .ok (.iload 4, 2) := by decide +kernel
theorem dX11_findHire_101 : decode cX11_findHire 101 = .ok (.invokestatic 108, 3) := by decide +kernel
theorem dX11_findHire_104 : decode cX11_findHire 104 = .ok (.iconst 3, 1) := by decide +kernel
theorem dX11_findHire_105 : decode cX11_findHire 105 = .ok (.if_icmp .ge 14, 3) := by decide +kernel
theorem dX11_findHire_108 : decode cX11_findHire 108 = .ok (.iload_n 3, 1) := by decide +kernel
theorem dX11_findHire_109 : decode cX11_findHire 109 = .ok (.aload_n 0, 1) := by decide +kernel
theorem dX11_findHire_110 : decode cX11_findHire 110 = .ok (.iload 4, 2) := by decide +kernel
theorem dX11_findHire_112 : decode cX11_findHire 112 = .ok (.invokevirtual 122, 3) := by decide +kernel
theorem dX11_findHire_115 : decode cX11_findHire 115 = .ok (.iadd, 1) := by decide +kernel
theorem dX11_findHire_116 : decode cX11_findHire 116 = .ok (.goto 6, 3) := by decide +kernel
theorem dX11_findHire_119 : decode cX11_findHire 119 = .ok (.sipush 241, 3) := by decide +kernel
theorem dX11_findHire_122 : decode cX11_findHire 122 = .ok (.istore 5, 2) := by decide +kernel
theorem dX11_findHire_124 : decode cX11_findHire 124 = .ok (.iload 5, 2) := by decide +kernel
theorem dX11_findHire_126 : decode cX11_findHire 126 = .ok (.iload_n 2, 1) := by decide +kernel
theorem dX11_findHire_127 : decode cX11_findHire 127 = .ok (.if_icmp .gt 12, 3) := by decide +kernel
theorem dX11_findHire_130 : decode cX11_findHire 130 = .ok (.aload_n 0, 1) := by decide +kernel
theorem dX11_findHire_131 : decode cX11_findHire 131 = .ok (.iload 4, 2) := by decide +kernel
theorem dX11_findHire_133 : decode cX11_findHire 133 = .ok (.iload_n 3, 1) := by decide +kernel
theorem dX11_findHire_134 : decode cX11_findHire 134 = .ok (.iload 5, 2) := by decide +kernel
theorem dX11_findHire_136 : decode cX11_findHire 136 = .ok (.invokevirtual 221, 3) := by decide +kernel
theorem dX11_findHire_139 : decode cX11_findHire 139 = .ok (.iinc 4 1, 3) := by decide +kernel
theorem dX11_findHire_142 : decode cX11_findHire 142 = .ok (.goto (-52), 3) := by decide +kernel
theorem dX11_findHire_145 : decode cX11_findHire 145 = .ok (.iinc 3 (-1), 3) := by decide +kernel
theorem dX11_findHire_148 : decode cX11_findHire 148 = .ok (.goto (-107), 3) := by decide +kernel
theorem dX11_findHire_151 : decode cX11_findHire 151 = .ok (.aload_n 0, 1) := by decide +kernel
theorem dX11_findHire_152 : decode cX11_findHire 152 = .ok (.getfield 29, 3) := by decide +kernel
theorem dX11_findHire_155 : decode cX11_findHire 155 = .ok (.iconst 0, 1) := by decide +kernel
theorem dX11_findHire_156 : decode cX11_findHire 156 = .ok (.iaload, 1) := by decide +kernel
theorem dX11_findHire_157 : decode cX11_findHire 157 = .ok (.ireturn, 1) := by decide +kernel
set_option maxRecDepth 20000 in
theorem ggX11_goBack_X11_all : GoodIn wsX11_goBack wsX11_all := goodIn_r _ [7, 8, 9, 10, 6, 11, 12, 68, 69, 70, 71, 72, 73, 74, 75, 76, 77, 78, 79, 80, 81, 82, 83, 84, 85, 86, 87, 88, 89, 90, 91, 92] (by decide +kernel) (by decide +kernel)
set_option maxRecDepth 20000 in
theorem gX11_goBack_X11_all : GoodIn wsX11_goBack (wsV RX11 125 RX11 yX11_all wsX11_all) := goodIn_app (goodIn_of _ (by decide +kernel)) ggX11_goBack_X11_all
set_option maxRecDepth 20000 in
theorem ggX11_goBack_X11_at : GoodIn wsX11_goBack wsX11_at := goodIn_r _ [15] (by decide +kernel) (by decide +kernel)
set_option maxRecDepth 20000 in
theorem gX11_goBack_X11_at : GoodIn wsX11_goBack (va_wsS RX11 217 yX11_at wsX11_at) := goodIn_app (goodIn_of _ (by decide +kernel)) ggX11_goBack_X11_at
set_option maxRecDepth 20000 in
theorem ggX11_goBack_X11_mayCross : GoodIn wsX11_goBack wsX11_mayCross := goodIn_r _ [19, 20, 21, 22, 6, 23, 24, 25, 26, 27, 28, 29, 30, 31, 12, 32, 33, 34, 35, 8, 9, 10, 11, 36, 37, 38, 39, 40, 41, 42, 43, 44, 45, 46, 47, 48, 49, 50, 51, 52, 53, 54, 55, 56, 57, 58, 59, 60, 61, 62, 63, 68, 69, 70, 71, 72, 73, 74, 75, 76, 77, 78, 79, 80, 81, 82, 83, 84, 85, 86, 87, 88, 89, 90, 91, 92] (by decide +kernel) (by decide +kernel)
set_option maxRecDepth 20000 in
theorem gX11_goBack_X11_mayCross : GoodIn wsX11_goBack (wsV RX11 225 RX11 yX11_mayCross wsX11_mayCross) := goodIn_app (goodIn_of _ (by decide +kernel)) ggX11_goBack_X11_mayCross
set_option maxRecDepth 20000 in
theorem ggX11_goBack_X11_hireOf : GoodIn wsX11_goBack wsX11_hireOf := goodIn_r _ [67, 8, 9, 10, 6, 11, 12, 40, 41, 42, 43, 68, 69, 70, 71, 72, 73, 74, 75, 76, 77, 78, 79, 80, 81, 82, 83, 84, 85, 86, 87, 88, 89, 90, 91, 92] (by decide +kernel) (by decide +kernel)
set_option maxRecDepth 20000 in
theorem gX11_goBack_X11_hireOf : GoodIn wsX11_goBack (wsV RX11 228 RX11 yX11_hireOf wsX11_hireOf) := goodIn_app (goodIn_of _ (by decide +kernel)) ggX11_goBack_X11_hireOf
theorem dX11_goBack_0 : decode cX11_goBack 0 = .ok (.iconst 0, 1) := by decide +kernel
theorem dX11_goBack_1 : decode cX11_goBack 1 = .ok (.istore 4, 2) := by decide +kernel
theorem dX11_goBack_3 : decode cX11_goBack 3 = .ok (.iload 4, 2) := by decide +kernel
theorem dX11_goBack_5 : decode cX11_goBack 5 = .ok (.aload_n 0, 1) := by decide +kernel
theorem dX11_goBack_6 : decode cX11_goBack 6 = .ok (.invokevirtual 125, 3) := by decide +kernel
theorem dX11_goBack_9 : decode cX11_goBack 9 = .ok (.if_icmp .gt 102, 3) := by decide +kernel
theorem dX11_goBack_12 : decode cX11_goBack 12 = .ok (.aload_n 0, 1) := by decide +kernel
theorem dX11_goBack_13 : decode cX11_goBack 13 = .ok (.getfield 29, 3) := by decide +kernel
theorem dX11_goBack_16 : decode cX11_goBack 16 = .ok (.iload_n 3, 1) := by decide +kernel
theorem dX11_goBack_17 : decode cX11_goBack 17 = .ok (.iload 4, 2) := by decide +kernel
theorem dX11_goBack_19 : decode cX11_goBack 19 = .ok (.iload_n 1, 1) := by decide +kernel
theorem dX11_goBack_20 : decode cX11_goBack 20 = .ok (.ixor, 1) := by decide +kernel
theorem dX11_goBack_21 : decode cX11_goBack 21 = .ok (.invokestatic 217, 3) := by decide +kernel
theorem dX11_goBack_24 : decode cX11_goBack 24 = .ok (.iaload, 1) := by decide +kernel
theorem dX11_goBack_25 : decode cX11_goBack 25 = .ok (.ldc 220, 2) := by decide +kernel
theorem dX11_goBack_27 : decode cX11_goBack 27 = .ok (.if_icmp .ge 78, 3) := by decide +kernel
theorem dX11_goBack_30 : decode cX11_goBack 30 = .ok (.aload_n 0, 1) := by decide +kernel
theorem dX11_goBack_31 : decode cX11_goBack 31 = .ok (.iload_n 1, 1) := by decide +kernel
theorem dX11_goBack_32 : decode cX11_goBack 32 = .ok (.iload 4, 2) := by decide +kernel
theorem dX11_goBack_34 : decode cX11_goBack 34 = .ok (.iload_n 2, 1) := by decide +kernel
theorem dX11_goBack_35 : decode cX11_goBack 35 = .ok (.invokevirtual 225, 3) := by decide +kernel
theorem dX11_goBack_38 : decode cX11_goBack 38 = .ok (.ifCond .eq 67, 3) := by decide +kernel
theorem dX11_goBack_41 : decode cX11_goBack 41 = .ok (.aload_n 0, 1) := by decide +kernel
theorem dX11_goBack_42 : decode cX11_goBack 42 = .ok (.iload_n 1, 1) := by decide +kernel
theorem dX11_goBack_43 : decode cX11_goBack 43 = .ok (.invokevirtual 228, 3) := by decide +kernel
theorem dX11_goBack_46 : decode cX11_goBack 46 = .ok (.aload_n 0, 1) := by decide +kernel
theorem dX11_goBack_47 : decode cX11_goBack 47 = .ok (.getfield 29, 3) := by decide +kernel
theorem dX11_goBack_50 : decode cX11_goBack 50 = .ok (.iload_n 3, 1) := by decide +kernel
theorem dX11_goBack_51 : decode cX11_goBack 51 = .ok (.iload 4, 2) := by decide +kernel
theorem dX11_goBack_53 : decode cX11_goBack 53 = .ok (.iload_n 1, 1) := by decide +kernel
theorem dX11_goBack_54 : decode cX11_goBack 54 = .ok (.ixor, 1) := by decide +kernel
theorem dX11_goBack_55 : decode cX11_goBack 55 = .ok (.invokestatic 217, 3) := by decide +kernel
theorem dX11_goBack_58 : decode cX11_goBack 58 = .ok (.iaload, 1) := by decide +kernel
theorem dX11_goBack_59 : decode cX11_goBack 59 = .ok (.iadd, 1) := by decide +kernel
theorem dX11_goBack_60 : decode cX11_goBack 60 = .ok (.istore 5, 2) := by decide +kernel
theorem dX11_goBack_62 : decode cX11_goBack 62 = .ok (.aload_n 0, 1) := by decide +kernel
theorem dX11_goBack_63 : decode cX11_goBack 63 = .ok (.getfield 29, 3) := by decide +kernel
theorem dX11_goBack_66 : decode cX11_goBack 66 = .ok (.iload_n 2, 1) := by decide +kernel
theorem dX11_goBack_67 : decode cX11_goBack 67 = .ok (.iload 4, 2) := by decide +kernel
theorem dX11_goBack_69 : decode cX11_goBack 69 = .ok (.invokestatic 217, 3) := by decide +kernel
theorem dX11_goBack_72 : decode cX11_goBack 72 = .ok (.iload 5, 2) := by decide +kernel
theorem dX11_goBack_74 : decode cX11_goBack 74 = .ok (.aload_n 0, 1) := by decide +kernel
theorem dX11_goBack_75 : decode cX11_goBack 75 = .ok (.getfield 29, 3) := by decide +kernel
theorem dX11_goBack_78 : decode cX11_goBack 78 = .ok (.iload_n 2, 1) := by decide +kernel
theorem dX11_goBack_79 : decode cX11_goBack 79 = .ok (.iload 4, 2) := by decide +kernel
theorem dX11_goBack_81 : decode cX11_goBack 81 = .ok (.invokestatic 217, 3) := by decide +kernel
theorem dX11_goBack_84 : decode cX11_goBack 84 = .ok (.iaload, 1) := by decide +kernel
theorem dX11_goBack_85 : decode cX11_goBack 85 = .ok (.if_icmp .ge 8, 3) := by decide +kernel
theorem dX11_goBack_88 : decode cX11_goBack 88 = .ok (.iload 5, 2) := by decide +kernel
theorem dX11_goBack_90 : decode cX11_goBack 90 = .ok (.goto 14, 3) := by decide +kernel
theorem dX11_goBack_93 : decode cX11_goBack 93 = .ok (.aload_n 0, 1) := by decide +kernel
theorem dX11_goBack_94 : decode cX11_goBack 94 = .ok (.getfield 29, 3) := by decide +kernel
theorem dX11_goBack_97 : decode cX11_goBack 97 = .ok (.iload_n 2, 1) := by decide +kernel
theorem dX11_goBack_98 : decode cX11_goBack 98 = .ok (.iload 4, 2) := by decide +kernel
theorem dX11_goBack_100 : decode cX11_goBack 100 = .ok (.invokestatic 217, 3) := by decide +kernel
theorem dX11_goBack_103 : decode cX11_goBack 103 = .ok (.iaload, 1) := by decide +kernel
theorem dX11_goBack_104 : decode cX11_goBack 104 = .ok (.iastore, 1) := by decide +kernel
theorem dX11_goBack_105 : decode cX11_goBack 105 = .ok (.iinc 4 1, 3) := by decide +kernel
theorem dX11_goBack_108 : decode cX11_goBack 108 = .ok (.goto (-105), 3) := by decide +kernel
theorem dX11_goBack_111 : decode cX11_goBack 111 = .ok (.return_, 1) := by decide +kernel
set_option maxRecDepth 20000 in
theorem ggX11_firstMinute_X11_all : GoodIn wsX11_firstMinute wsX11_all := goodIn_r _ [6, 7, 8, 9, 5, 10, 11, 67, 68, 69, 70, 71, 72, 73, 74, 75, 76, 77, 78, 79, 80, 81, 82, 83, 84, 85, 86, 87, 88, 89, 90, 91] (by decide +kernel) (by decide +kernel)
set_option maxRecDepth 20000 in
theorem gX11_firstMinute_X11_all : GoodIn wsX11_firstMinute (wsV RX11 125 RX11 yX11_all wsX11_all) := goodIn_app (goodIn_of _ (by decide +kernel)) ggX11_firstMinute_X11_all
set_option maxRecDepth 20000 in
theorem ggX11_firstMinute_X11_at : GoodIn wsX11_firstMinute wsX11_at := goodIn_r _ [14] (by decide +kernel) (by decide +kernel)
set_option maxRecDepth 20000 in
theorem gX11_firstMinute_X11_at : GoodIn wsX11_firstMinute (va_wsS RX11 217 yX11_at wsX11_at) := goodIn_app (goodIn_of _ (by decide +kernel)) ggX11_firstMinute_X11_at
set_option maxRecDepth 20000 in
theorem ggX11_firstMinute_X11_goForth : GoodIn wsX11_firstMinute wsX11_goForth := goodIn_r _ [18, 1, 12, 13, 5, 14, 2, 3, 4, 6, 7, 8, 9, 10, 11, 19, 20, 21, 22, 23, 24, 25, 26, 27, 28, 29, 30, 31, 32, 33, 34, 35, 36, 37, 38, 39, 40, 41, 42, 43, 44, 45, 46, 47, 48, 49, 50, 51, 52, 53, 54, 55, 56, 57, 58, 59, 60, 61, 62, 63, 64, 65, 66, 67, 68, 69, 70, 71, 72, 73, 74, 75, 76, 77, 78, 79, 80, 81, 82, 83, 84, 85, 86, 87, 88, 89, 90, 91] (by decide +kernel) (by decide +kernel)
set_option maxRecDepth 20000 in
theorem gX11_firstMinute_X11_goForth : GoodIn wsX11_firstMinute (wsV RX11 231 RX11 yX11_goForth wsX11_goForth) := goodIn_app (goodIn_of _ (by decide +kernel)) ggX11_firstMinute_X11_goForth
theorem dX11_firstMinute_0 : decode cX11_firstMinute 0 = .ok (.iconst 0, 1) := by decide +kernel
theorem dX11_firstMinute_1 : decode cX11_firstMinute 1 = .ok (.istore_n 2, 1) := by decide +kernel
theorem dX11_firstMinute_2 : decode cX11_firstMinute 2 = .ok (.iload_n 2, 1) := by decide +kernel
theorem dX11_firstMinute_3 : decode cX11_firstMinute 3 = .ok (.sipush 15424, 3) := by decide +kernel
theorem dX11_firstMinute_6 : decode cX11_firstMinute 6 = .ok (.if_icmp .ge 24, 3) := by decide +kernel
theorem dX11_firstMinute_9 : decode cX11_firstMinute 9 = .ok (.aload_n 0, 1) := by decide +kernel
theorem dX11_firstMinute_10 : decode cX11_firstMinute 10 = .ok (.getfield 38, 3) := by decide +kernel
theorem dX11_firstMinute_13 : decode cX11_firstMinute 13 = .ok (.iload_n 2, 1) := by decide +kernel
theorem dX11_firstMinute_14 : decode cX11_firstMinute 14 = .ok (.iload_n 2, 1) := by decide +kernel
theorem dX11_firstMinute_15 : decode cX11_firstMinute 15 = .ok (.ifCond .ne 7, 3) := by decide +kernel
theorem dX11_firstMinute_18 : decode cX11_firstMinute 18 = .ok (.iconst 1, 1) := by decide +kernel
theorem dX11_firstMinute_19 : decode cX11_firstMinute 19 = .ok (.goto 4, 3) := by decide +kernel
theorem dX11_firstMinute_22 : decode cX11_firstMinute 22 = .ok (.iconst 0, 1) := by decide +kernel
theorem dX11_firstMinute_23 : decode cX11_firstMinute 23 = .ok (.bastore, 1) := by decide +kernel
theorem dX11_firstMinute_24 : decode cX11_firstMinute 24 = .ok (.iinc 2 1, 3) := by decide +kernel
theorem dX11_firstMinute_27 : decode cX11_firstMinute 27 = .ok (.goto (-25), 3) := by decide +kernel
theorem dX11_firstMinute_30 : decode cX11_firstMinute 30 = .ok (.iconst 0, 1) := by decide +kernel
theorem dX11_firstMinute_31 : decode cX11_firstMinute 31 = .ok (.istore_n 2, 1) := by decide +kernel
theorem dX11_firstMinute_32 : decode cX11_firstMinute 32 = .ok (.iload_n 2, 1) := by decide +kernel
theorem dX11_firstMinute_33 : decode cX11_firstMinute 33 = .ok (.sipush 240, 3) := by decide +kernel
theorem dX11_firstMinute_36 : decode cX11_firstMinute 36 = .ok (.if_icmp .gt 53, 3) := by decide +kernel
theorem dX11_firstMinute_39 : decode cX11_firstMinute 39 = .ok (.iconst 0, 1) := by decide +kernel
theorem dX11_firstMinute_40 : decode cX11_firstMinute 40 = .ok (.istore_n 3, 1) := by decide +kernel
theorem dX11_firstMinute_41 : decode cX11_firstMinute 41 = .ok (.iload_n 3, 1) := by decide +kernel
theorem dX11_firstMinute_42 : decode cX11_firstMinute 42 = .ok (.aload_n 0, 1) := by decide +kernel
theorem dX11_firstMinute_43 : decode cX11_firstMinute 43 = .ok (.invokevirtual 125, 3) := by decide +kernel
theorem dX11_firstMinute_46 : decode cX11_firstMinute 46 = .ok (.if_icmp .gt 37, 3) := by decide +kernel
theorem dX11_firstMinute_49 : decode cX11_firstMinute 49 = .ok (.aload_n 0, 1) := by decide +kernel
theorem dX11_firstMinute_50 : decode cX11_firstMinute 50 = .ok (.getfield 38, 3) := by decide +kernel
theorem dX11_firstMinute_53 : decode cX11_firstMinute 53 = .ok (.iload_n 2, 1) := by decide +kernel
theorem dX11_firstMinute_54 : decode cX11_firstMinute 54 = .ok (.iload_n 3, 1) := by decide +kernel
theorem dX11_firstMinute_55 : decode cX11_firstMinute 55 = .ok (.invokestatic 217, 3) := by decide +kernel
theorem dX11_firstMinute_58 : decode cX11_firstMinute 58 = .ok (.baload, 1) := by decide +kernel
theorem dX11_firstMinute_59 : decode cX11_firstMinute 59 = .ok (.ifCond .eq 18, 3) := by decide +kernel
theorem dX11_firstMinute_62 : decode cX11_firstMinute 62 = .ok (.iload_n 3, 1) := by decide +kernel
theorem dX11_firstMinute_63 : decode cX11_firstMinute 63 = .ok (.iload_n 1, 1) := by decide +kernel
theorem dX11_firstMinute_64 : decode cX11_firstMinute 64 = .ok (.iand, 1) := by decide +kernel
theorem dX11_firstMinute_65 : decode cX11_firstMinute 65 = .ok (.iload_n 1, 1) := by decide +kernel
theorem dX11_firstMinute_66 : decode cX11_firstMinute 66 = .ok (.if_icmp .ne 5, 3) := by decide +kernel
theorem dX11_firstMinute_69 : decode cX11_firstMinute 69 = .ok (.iload_n 2, 1) := by decide +kernel
theorem dX11_firstMinute_70 : decode cX11_firstMinute 70 = .ok (.ireturn, 1) := by decide +kernel
theorem dX11_firstMinute_71 : decode cX11_firstMinute 71 = .ok (.aload_n 0, 1) := by decide +kernel
theorem dX11_firstMinute_72 : decode cX11_firstMinute 72 = .ok (.iload_n 2, 1) := by decide +kernel
theorem dX11_firstMinute_73 : decode cX11_firstMinute 73 = .ok (.iload_n 3, 1) := by decide +kernel
theorem dX11_firstMinute_74 : decode cX11_firstMinute 74 = .ok (.invokevirtual 231, 3) := by decide +kernel
theorem dX11_firstMinute_77 : decode cX11_firstMinute 77 = .ok (.iinc 3 1, 3) := by decide +kernel
theorem dX11_firstMinute_80 : decode cX11_firstMinute 80 = .ok (.goto (-39), 3) := by decide +kernel
theorem dX11_firstMinute_83 : decode cX11_firstMinute 83 = .ok (.iinc 2 1, 3) := by decide +kernel
theorem dX11_firstMinute_86 : decode cX11_firstMinute 86 = .ok (.goto (-54), 3) := by decide +kernel
theorem dX11_firstMinute_89 : decode cX11_firstMinute 89 = .ok (.iconst (-1), 1) := by decide +kernel
theorem dX11_firstMinute_90 : decode cX11_firstMinute 90 = .ok (.ireturn, 1) := by decide +kernel
set_option maxRecDepth 20000 in
theorem ggX11_goForth_X11_at : GoodIn wsX11_goForth wsX11_at := goodIn_r _ [5] (by decide +kernel) (by decide +kernel)
set_option maxRecDepth 20000 in
theorem gX11_goForth_X11_at : GoodIn wsX11_goForth (va_wsS RX11 217 yX11_at wsX11_at) := goodIn_app (goodIn_of _ (by decide +kernel)) ggX11_goForth_X11_at
set_option maxRecDepth 20000 in
theorem ggX11_goForth_X11_all : GoodIn wsX11_goForth wsX11_all := goodIn_r _ [9, 10, 11, 12, 4, 13, 14, 63, 64, 65, 66, 67, 68, 69, 70, 71, 72, 73, 74, 75, 76, 77, 78, 79, 80, 81, 82, 83, 84, 85, 86, 87] (by decide +kernel) (by decide +kernel)
set_option maxRecDepth 20000 in
theorem gX11_goForth_X11_all : GoodIn wsX11_goForth (wsV RX11 125 RX11 yX11_all wsX11_all) := goodIn_app (goodIn_of _ (by decide +kernel)) ggX11_goForth_X11_all
set_option maxRecDepth 20000 in
theorem ggX11_goForth_X11_mayCross : GoodIn wsX11_goForth wsX11_mayCross := goodIn_r _ [18, 19, 20, 21, 4, 22, 23, 24, 25, 26, 27, 28, 29, 30, 14, 31, 32, 33, 34, 10, 11, 12, 13, 35, 36, 37, 38, 39, 40, 41, 42, 43, 44, 45, 46, 47, 48, 49, 50, 51, 52, 53, 54, 55, 56, 57, 58, 59, 60, 61, 62, 63, 64, 65, 66, 67, 68, 69, 70, 71, 72, 73, 74, 75, 76, 77, 78, 79, 80, 81, 82, 83, 84, 85, 86, 87] (by decide +kernel) (by decide +kernel)
set_option maxRecDepth 20000 in
theorem gX11_goForth_X11_mayCross : GoodIn wsX11_goForth (wsV RX11 225 RX11 yX11_mayCross wsX11_mayCross) := goodIn_app (goodIn_of _ (by decide +kernel)) ggX11_goForth_X11_mayCross
set_option maxRecDepth 20000 in
theorem ggX11_goForth_X11_timeOfSet : GoodIn wsX11_goForth wsX11_timeOfSet := goodIn_r _ [58, 10, 11, 12, 4, 13, 14, 59, 60, 61, 62, 39, 40, 41, 42, 63, 64, 65, 66, 67, 68, 69, 70, 71, 72, 73, 74, 75, 76, 77, 78, 79, 80, 81, 82, 83, 84, 85, 86, 87] (by decide +kernel) (by decide +kernel)
set_option maxRecDepth 20000 in
theorem gX11_goForth_X11_timeOfSet : GoodIn wsX11_goForth (wsV RX11 122 RX11 yX11_timeOfSet wsX11_timeOfSet) := goodIn_app (goodIn_of _ (by decide +kernel)) ggX11_goForth_X11_timeOfSet
theorem dX11_goForth_0 : decode cX11_goForth 0 = .ok (.iload_n 1, 1) := by decide +kernel
theorem dX11_goForth_1 : decode cX11_goForth 1 = .ok (.sipush 240, 3) := by decide +kernel
theorem dX11_goForth_4 : decode cX11_goForth 4 = .ok (.if_icmp .ne 4, 3) := by decide +kernel
theorem dX11_goForth_7 : decode cX11_goForth 7 = .ok (.return_, 1) := by decide +kernel
theorem dX11_goForth_8 : decode cX11_goForth 8 = .ok (.aload_n 0, 1) := by decide +kernel
theorem dX11_goForth_9 : decode cX11_goForth 9 = .ok (.getfield 38, 3) := by decide +kernel
theorem dX11_goForth_12 : decode cX11_goForth 12 = .ok (.iload_n 1, 1) := by decide +kernel
theorem dX11_goForth_13 : decode cX11_goForth 13 = .ok (.iconst 1, 1) := by decide +kernel
theorem dX11_goForth_14 : decode cX11_goForth 14 = .ok (.iadd, 1) := by decide +kernel
theorem dX11_goForth_15 : decode cX11_goForth 15 = .ok (.iload_n 2, 1) := by decide +kernel
theorem dX11_goForth_16 : decode cX11_goForth 16 = .ok (.invokestatic 217, 3) := by decide +kernel
theorem dX11_goForth_19 : decode cX11_goForth 19 = .ok (.iconst 1, 1) := by decide +kernel
theorem dX11_goForth_20 : decode cX11_goForth 20 = .ok (.bastore, 1) := by decide +kernel
theorem dX11_goForth_21 : decode cX11_goForth 21 = .ok (.iconst 1, 1) := by decide +kernel
theorem dX11_goForth_22 : decode cX11_goForth 22 = .ok (.istore_n 3, 1) := by decide +kernel
theorem dX11_goForth_23 : decode cX11_goForth 23 = .ok (.iload_n 3, 1) := by decide +kernel
theorem dX11_goForth_24 : decode cX11_goForth 24 = .ok (.aload_n 0, 1) := by decide +kernel
theorem dX11_goForth_25 : decode cX11_goForth 25 = .ok (.invokevirtual 125, 3) := by decide +kernel
theorem dX11_goForth_28 : decode cX11_goForth 28 = .ok (.if_icmp .gt 38, 3) := by decide +kernel
theorem dX11_goForth_31 : decode cX11_goForth 31 = .ok (.aload_n 0, 1) := by decide +kernel
theorem dX11_goForth_32 : decode cX11_goForth 32 = .ok (.iload_n 3, 1) := by decide +kernel
theorem dX11_goForth_33 : decode cX11_goForth 33 = .ok (.iload_n 2, 1) := by decide +kernel
theorem dX11_goForth_34 : decode cX11_goForth 34 = .ok (.iload_n 1, 1) := by decide +kernel
theorem dX11_goForth_35 : decode cX11_goForth 35 = .ok (.invokevirtual 225, 3) := by decide +kernel
theorem dX11_goForth_38 : decode cX11_goForth 38 = .ok (.ifCond .eq 22, 3) := by decide +kernel
theorem dX11_goForth_41 : decode cX11_goForth 41 = .ok (.aload_n 0, 1) := by decide +kernel
theorem dX11_goForth_42 : decode cX11_goForth 42 = .ok (.getfield 38, 3) := by decide +kernel
theorem dX11_goForth_45 : decode cX11_goForth 45 = .ok (.iload_n 1, 1) := by decide +kernel
theorem dX11_goForth_46 : decode cX11_goForth 46 = .ok (.aload_n 0, 1) := by decide +kernel
theorem dX11_goForth_47 : decode cX11_goForth 47 = .ok (.iload_n 3, 1) := by decide +kernel
theorem dX11_goForth_48 : decode cX11_goForth 48 = .ok (.invokevirtual 122, 3) := by decide +kernel
theorem dX11_goForth_51 : decode cX11_goForth 51 = .ok (.iadd, 1) := by decide +kernel
theorem dX11_goForth_52 : decode cX11_goForth 52 = .ok (.iload_n 2, 1) := by decide +kernel
theorem dX11_goForth_53 : decode cX11_goForth 53 = .ok (.iload_n 3, 1) := by decide +kernel
theorem dX11_goForth_54 : decode cX11_goForth 54 = .ok (.ixor, 1) := by decide +kernel
theorem dX11_goForth_55 : decode cX11_goForth 55 = .ok (.invokestatic 217, 3) := by decide +kernel
theorem dX11_goForth_58 : decode cX11_goForth 58 = .ok (.iconst 1, 1) := by decide +kernel
theorem dX11_goForth_59 : decode cX11_goForth 59 = .ok (.bastore, 1) := by decide +kernel
theorem dX11_goForth_60 : decode cX11_goForth 60 = .ok (.iinc 3 1, 3) := by decide +kernel
theorem dX11_goForth_63 : decode cX11_goForth 63 = .ok (.goto (-40), 3) := by decide +kernel
theorem dX11_goForth_66 : decode cX11_goForth 66 = .ok (.return_, 1) := by decide +kernel
set_option maxRecDepth 20000 in
theorem ggX11_findLeast_X11_carryNothing : GoodIn wsX11_findLeast wsX11_carryNothing := goodIn_r _ [8, 9, 90, 91, 92, 93, 94, 95, 96, 97, 98, 99, 100, 101, 102, 103, 104, 105, 106, 107, 108, 109, 110, 111, 112, 113, 114] (by decide +kernel) (by decide +kernel)
set_option maxRecDepth 20000 in
theorem gX11_findLeast_X11_carryNothing : GoodIn wsX11_findLeast (wsV RX11 128 RX11 yX11_carryNothing wsX11_carryNothing) := goodIn_app (goodIn_of _ (by decide +kernel)) ggX11_findLeast_X11_carryNothing
set_option maxRecDepth 20000 in
theorem ggX11_findLeast_X11_firstMinute : GoodIn wsX11_findLeast wsX11_firstMinute := goodIn_r _ [13, 14, 15, 16, 17, 7, 18, 19, 20, 21, 22, 23, 24, 25, 26, 27, 28, 29, 30, 31, 32, 33, 34, 1, 35, 36, 37, 38, 39, 40, 41, 42, 43, 44, 45, 46, 47, 48, 49, 50, 51, 52, 53, 54, 55, 56, 57, 58, 59, 60, 61, 62, 63, 64, 9, 65, 66, 67, 68, 69, 70, 71, 72, 73, 74, 75, 76, 90, 91, 92, 93, 94, 95, 96, 97, 98, 99, 100, 101, 102, 103, 104, 105, 106, 107, 108, 109, 110, 111, 112, 113, 114] (by decide +kernel) (by decide +kernel)
set_option maxRecDepth 20000 in
theorem gX11_findLeast_X11_firstMinute : GoodIn wsX11_findLeast (wsV RX11 235 RX11 yX11_firstMinute wsX11_firstMinute) := goodIn_app (goodIn_of _ (by decide +kernel)) ggX11_findLeast_X11_firstMinute
set_option maxRecDepth 20000 in
theorem ggX11_findLeast_X11_findHire : GoodIn wsX11_findLeast wsX11_findHire := goodIn_r _ [80, 81, 3, 24, 25, 7, 26, 15, 16, 17, 18, 19, 20, 21, 22, 23, 35, 36, 37, 69, 70, 71, 72, 73, 74, 75, 76, 54, 55, 56, 57, 82, 83, 84, 85, 31, 32, 33, 34, 1, 38, 39, 40, 41, 42, 43, 44, 45, 46, 47, 48, 49, 50, 51, 52, 53, 58, 59, 60, 61, 62, 63, 64, 9, 65, 66, 67, 68, 86, 87, 88, 89, 90, 91, 92, 93, 94, 95, 96, 97, 98, 99, 100, 101, 102, 103, 104, 105, 106, 107, 108, 109, 110, 111, 112, 113, 114] (by decide +kernel) (by decide +kernel)
set_option maxRecDepth 20000 in
theorem gX11_findLeast_X11_findHire : GoodIn wsX11_findLeast (wsV RX11 241 RX11 yX11_findHire wsX11_findHire) := goodIn_app (goodIn_of _ (by decide +kernel)) ggX11_findLeast_X11_findHire
theorem dX11_findLeast_0 : decode cX11_findLeast 0 = .ok (.aload_n 0, 1) := by decide +kernel
theorem dX11_findLeast_1 : decode cX11_findLeast 1 = .ok (.invokevirtual 128, 3) := by decide +kernel
theorem dX11_findLeast_4 : decode cX11_findLeast 4 = .ok (.aload_n 0, 1) := by decide +kernel
theorem dX11_findLeast_5 : decode cX11_findLeast 5 = .ok (.iload_n 2, 1) := by decide +kernel
theorem dX11_findLeast_6 : decode cX11_findLeast 6 = .ok (.iconst (-1), 1) := by decide +kernel
theorem dX11_findLeast_7 : decode cX11_findLeast 7 = .ok (.if_icmp .ne 8, 3) := by decide +kernel
theorem dX11_findLeast_10 : decode cX11_findLeast 10 = .ok (.bipush 6, 2) := by decide +kernel
theorem dX11_findLeast_12 : decode cX11_findLeast 12 = .ok (.goto 4, 3) := by decide +kernel
theorem dX11_findLeast_15 : decode cX11_findLeast 15 = .ok (.iload_n 2, 1) := by decide +kernel
theorem dX11_findLeast_16 : decode cX11_findLeast 16 = .ok (.putfield 214, 3) := by decide +kernel
theorem dX11_findLeast_19 : decode cX11_findLeast 19 = .ok (.aload_n 0, 1) := by decide +kernel
theorem dX11_findLeast_20 : decode cX11_findLeast 20 = .ok (.aload_n 0, 1) := by decide +kernel
theorem dX11_findLeast_21 : decode cX11_findLeast 21 = .ok (.iload_n 1, 1) := by decide +kernel
theorem dX11_findLeast_22 : decode cX11_findLeast 22 = .ok (.invokevirtual 235, 3) := by decide +kernel
theorem dX11_findLeast_25 : decode cX11_findLeast 25 = .ok (.putfield 238, 3) := by decide +kernel
theorem dX11_findLeast_28 : decode cX11_findLeast 28 = .ok (.aload_n 0, 1) := by decide +kernel
theorem dX11_findLeast_29 : decode cX11_findLeast 29 = .ok (.getfield 238, 3) := by decide +kernel
theorem dX11_findLeast_32 : decode cX11_findLeast 32 = .ok (.iconst (-1), 1) := by decide +kernel
theorem dX11_findLeast_33 : decode cX11_findLeast 33 = .ok (.if_icmp .ne 8, 3) := by decide +kernel
theorem dX11_findLeast_36 : decode cX11_findLeast 36 = .ok (.ldc 220, 2) := by decide +kernel
theorem dX11_findLeast_38 : decode cX11_findLeast 38 = .ok (.goto 12, 3) := by decide +kernel
theorem dX11_findLeast_41 : decode cX11_findLeast 41 = .ok (.aload_n 0, 1) := by decide +kernel
theorem dX11_findLeast_42 : decode cX11_findLeast 42 = .ok (.iload_n 1, 1) := by decide +kernel
theorem dX11_findLeast_43 : decode cX11_findLeast 43 = .ok (.aload_n 0, 1) := by decide +kernel
theorem dX11_findLeast_44 : decode cX11_findLeast 44 = .ok (.getfield 238, 3) := by decide +kernel
theorem dX11_findLeast_47 : decode cX11_findLeast 47 = .ok (.invokevirtual 241, 3) := by decide +kernel
theorem dX11_findLeast_50 : decode cX11_findLeast 50 = .ok (.ireturn, 1) := by decide +kernel
set_option maxRecDepth 20000 in
theorem ggX11_layRow_X11_all : GoodIn wsX11_layRow wsX11_all := goodIn_r _ [9, 10, 11, 12, 8, 13, 14, 75, 76, 77, 78, 79, 80, 81, 82, 83, 84, 85, 86, 87, 88, 89, 90, 91, 92, 93, 94, 95, 96, 97, 98, 99] (by decide +kernel) (by decide +kernel)
set_option maxRecDepth 20000 in
theorem gX11_layRow_X11_all : GoodIn wsX11_layRow (wsV RX11 125 RX11 yX11_all wsX11_all) := goodIn_app (goodIn_of _ (by decide +kernel)) ggX11_layRow_X11_all
set_option maxRecDepth 20000 in
theorem ggX11_layRow_X11_isNext : GoodIn wsX11_layRow wsX11_isNext := goodIn_r _ [18, 2, 19, 20, 21, 22, 8, 23, 24, 25, 26, 27, 28, 29, 30, 31, 32, 33, 34, 35, 14, 36, 37, 38, 39, 10, 11, 12, 13, 40, 41, 42, 43, 44, 45, 46, 47, 48, 49, 50, 51, 52, 53, 54, 55, 56, 57, 58, 59, 60, 61, 62, 63, 64, 65, 66, 67, 68, 69, 70, 71, 72, 73, 74, 75, 76, 77, 78, 79, 80, 81, 82, 83, 84, 85, 86, 87, 88, 89, 90, 91, 92, 93, 94, 95, 96, 97, 98, 99] (by decide +kernel) (by decide +kernel)
set_option maxRecDepth 20000 in
theorem gX11_layRow_X11_isNext : GoodIn wsX11_layRow (wsV RX11 247 RX11 yX11_isNext wsX11_isNext) := goodIn_app (goodIn_of _ (by decide +kernel)) ggX11_layRow_X11_isNext
set_option maxRecDepth 20000 in
theorem ggX11_layRow_X11_timeOfSet : GoodIn wsX11_layRow wsX11_timeOfSet := goodIn_r _ [63, 10, 11, 12, 8, 13, 14, 64, 65, 66, 67, 44, 45, 46, 47, 75, 76, 77, 78, 79, 80, 81, 82, 83, 84, 85, 86, 87, 88, 89, 90, 91, 92, 93, 94, 95, 96, 97, 98, 99] (by decide +kernel) (by decide +kernel)
set_option maxRecDepth 20000 in
theorem gX11_layRow_X11_timeOfSet : GoodIn wsX11_layRow (wsV RX11 122 RX11 yX11_timeOfSet wsX11_timeOfSet) := goodIn_app (goodIn_of _ (by decide +kernel)) ggX11_layRow_X11_timeOfSet
theorem dX11_layRow_0 : decode cX11_layRow 0 = .ok (.aload_n 0, 1) := by decide +kernel
theorem dX11_layRow_1 : decode cX11_layRow 1 = .ok (.iconst 0, 1) := by decide +kernel
theorem dX11_layRow_2 : decode cX11_layRow 2 = .ok (.putfield 244, 3) := by decide +kernel
theorem dX11_layRow_5 : decode cX11_layRow 5 = .ok (.iconst 0, 1) := by decide +kernel
theorem dX11_layRow_6 : decode cX11_layRow 6 = .ok (.istore_n 1, 1) := by decide +kernel
theorem dX11_layRow_7 : decode cX11_layRow 7 = .ok (.iconst 0, 1) := by decide +kernel
theorem dX11_layRow_8 : decode cX11_layRow 8 = .ok (.istore_n 2, 1) := by decide +kernel
theorem dX11_layRow_9 : decode cX11_layRow 9 = .ok (.iload_n 1, 1) := by decide +kernel
theorem dX11_layRow_10 : decode cX11_layRow 10 = .ok (.aload_n 0, 1) := by decide +kernel
theorem dX11_layRow_11 : decode cX11_layRow 11 = .ok (.getfield 238, 3) := by decide +kernel
theorem dX11_layRow_14 : decode cX11_layRow 14 = .ok (.if_icmp .ge 88, 3) := by decide +kernel
theorem dX11_layRow_17 : decode cX11_layRow 17 = .ok (.iconst 1, 1) := by decide +kernel
theorem dX11_layRow_18 : decode cX11_layRow 18 = .ok (.istore_n 3, 1) := by decide +kernel
theorem dX11_layRow_19 : decode cX11_layRow 19 = .ok (.iload_n 3, 1) := by decide +kernel
theorem dX11_layRow_20 : decode cX11_layRow 20 = .ok (.aload_n 0, 1) := by decide +kernel
theorem dX11_layRow_21 : decode cX11_layRow 21 = .ok (.invokevirtual 125, 3) := by decide +kernel
theorem dX11_layRow_24 : decode cX11_layRow 24 = .ok (.if_icmp .gt 19, 3) := by decide +kernel
theorem dX11_layRow_27 : decode cX11_layRow 27 = .ok (.aload_n 0, 1) := by decide +kernel
theorem dX11_layRow_28 : decode cX11_layRow 28 = .ok (.iload_n 3, 1) := by decide +kernel
theorem dX11_layRow_29 : decode cX11_layRow 29 = .ok (.iload_n 1, 1) := by decide +kernel
theorem dX11_layRow_30 : decode cX11_layRow 30 = .ok (.iload_n 2, 1) := by decide +kernel
theorem dX11_layRow_31 : decode cX11_layRow 31 = .ok (.invokevirtual 247, 3) := by decide +kernel
theorem dX11_layRow_34 : decode cX11_layRow 34 = .ok (.ifCond .ne 9, 3) := by decide +kernel
theorem dX11_layRow_37 : decode cX11_layRow 37 = .ok (.iinc 3 1, 3) := by decide +kernel
theorem dX11_layRow_40 : decode cX11_layRow 40 = .ok (.goto (-21), 3) := by decide +kernel
theorem dX11_layRow_43 : decode cX11_layRow 43 = .ok (.iload_n 3, 1) := by decide +kernel
theorem dX11_layRow_44 : decode cX11_layRow 44 = .ok (.aload_n 0, 1) := by decide +kernel
theorem dX11_layRow_45 : decode cX11_layRow 45 = .ok (.invokevirtual 125, 3) := by decide +kernel
theorem dX11_layRow_48 : decode cX11_layRow 48 = .ok (.if_icmp .le 9, 3) := by decide +kernel
theorem dX11_layRow_51 : decode cX11_layRow 51 = .ok (.iinc 1 1, 3) := by decide +kernel
theorem dX11_layRow_54 : decode cX11_layRow 54 = .ok (.goto 45, 3) := by decide +kernel
theorem dX11_layRow_57 : decode cX11_layRow 57 = .ok (.aload_n 0, 1) := by decide +kernel
theorem dX11_layRow_58 : decode cX11_layRow 58 = .ok (.getfield 32, 3) := by decide +kernel
theorem dX11_layRow_61 : decode cX11_layRow 61 = .ok (.aload_n 0, 1) := by decide +kernel
theorem dX11_layRow_62 : decode cX11_layRow 62 = .ok (.getfield 244, 3) := by decide +kernel
theorem dX11_layRow_65 : decode cX11_layRow 65 = .ok (.iload_n 1, 1) := by decide +kernel
theorem dX11_layRow_66 : decode cX11_layRow 66 = .ok (.iastore, 1) := by decide +kernel
theorem dX11_layRow_67 : decode cX11_layRow 67 = .ok (.aload_n 0, 1) := by decide +kernel
theorem dX11_layRow_68 : decode cX11_layRow 68 = .ok (.getfield 35, 3) := by decide +kernel
theorem dX11_layRow_71 : decode cX11_layRow 71 = .ok (.aload_n 0, 1) := by decide +kernel
theorem dX11_layRow_72 : decode cX11_layRow 72 = .ok (.getfield 244, 3) := by decide +kernel
theorem dX11_layRow_75 : decode cX11_layRow 75 = .ok (.iload_n 3, 1) := by decide +kernel
theorem dX11_layRow_76 : decode cX11_layRow 76 = .ok (.iastore, 1) := by decide +kernel
theorem dX11_layRow_77 : decode cX11_layRow 77 = .ok (.aload_n 0, 1) := by decide +kernel
theorem dX11_layRow_78 : decode cX11_layRow 78 = .ok (.dup, 1) := by decide +kernel
theorem dX11_layRow_79 : decode cX11_layRow 79 = .ok (.getfield 244, 3) := by decide +kernel
theorem dX11_layRow_82 : decode cX11_layRow 82 = .ok (.iconst 1, 1) := by decide +kernel
theorem dX11_layRow_83 : decode cX11_layRow 83 = .ok (.iadd, 1) := by decide +kernel
theorem dX11_layRow_84 : decode cX11_layRow 84 = .ok (.putfield 244, 3) := by decide +kernel
theorem dX11_layRow_87 : decode cX11_layRow 87 = .ok (.iload_n 1, 1) := by decide +kernel
theorem dX11_layRow_88 : decode cX11_layRow 88 = .ok (.aload_n 0, 1) := by decide +kernel
theorem dX11_layRow_89 : decode cX11_layRow 89 = .ok (.iload_n 3, 1) := by decide +kernel
theorem dX11_layRow_90 : decode cX11_layRow 90 = .ok (.invokevirtual 122, 3) := by decide +kernel
theorem dX11_layRow_93 : decode cX11_layRow 93 = .ok (.iadd, 1) := by decide +kernel
theorem dX11_layRow_94 : decode cX11_layRow 94 = .ok (.istore_n 1, 1) := by decide +kernel
theorem dX11_layRow_95 : decode cX11_layRow 95 = .ok (.iload_n 2, 1) := by decide +kernel
theorem dX11_layRow_96 : decode cX11_layRow 96 = .ok (.iload_n 3, 1) := by decide +kernel
theorem dX11_layRow_97 : decode cX11_layRow 97 = .ok (.ixor, 1) := by decide +kernel
theorem dX11_layRow_98 : decode cX11_layRow 98 = .ok (.istore_n 2, 1) := by decide +kernel
theorem dX11_layRow_99 : decode cX11_layRow 99 = .ok (.goto (-90), 3) := by decide +kernel
theorem dX11_layRow_102 : decode cX11_layRow 102 = .ok (.return_, 1) := by decide +kernel
set_option maxRecDepth 20000 in
theorem ggX11_isNext_X11_mayCross : GoodIn wsX11_isNext wsX11_mayCross := goodIn_r _ [7, 8, 9, 10, 6, 11, 12, 13, 14, 15, 16, 17, 18, 19, 20, 21, 22, 23, 24, 25, 26, 27, 28, 29, 30, 31, 32, 33, 34, 35, 36, 37, 38, 39, 40, 41, 42, 43, 44, 45, 46, 47, 48, 49, 50, 51, 52, 53, 54, 55, 56, 64, 65, 66, 67, 68, 69, 70, 71, 72, 73, 74, 75, 76, 77, 78, 79, 80, 81, 82, 83, 84, 85, 86, 87, 88] (by decide +kernel) (by decide +kernel)
set_option maxRecDepth 20000 in
theorem gX11_isNext_X11_mayCross : GoodIn wsX11_isNext (wsV RX11 225 RX11 yX11_mayCross wsX11_mayCross) := goodIn_app (goodIn_of _ (by decide +kernel)) ggX11_isNext_X11_mayCross
set_option maxRecDepth 20000 in
theorem ggX11_isNext_X11_timeOfSet : GoodIn wsX11_isNext wsX11_timeOfSet := goodIn_r _ [52, 25, 26, 27, 6, 28, 20, 53, 54, 55, 56, 33, 34, 35, 36, 64, 65, 66, 67, 68, 69, 70, 71, 72, 73, 74, 75, 76, 77, 78, 79, 80, 81, 82, 83, 84, 85, 86, 87, 88] (by decide +kernel) (by decide +kernel)
set_option maxRecDepth 20000 in
theorem gX11_isNext_X11_timeOfSet : GoodIn wsX11_isNext (wsV RX11 122 RX11 yX11_timeOfSet wsX11_timeOfSet) := goodIn_app (goodIn_of _ (by decide +kernel)) ggX11_isNext_X11_timeOfSet
set_option maxRecDepth 20000 in
theorem ggX11_isNext_X11_hireOf : GoodIn wsX11_isNext wsX11_hireOf := goodIn_r _ [60, 25, 26, 27, 6, 28, 20, 33, 34, 35, 36, 64, 65, 66, 67, 68, 69, 70, 71, 72, 73, 74, 75, 76, 77, 78, 79, 80, 81, 82, 83, 84, 85, 86, 87, 88] (by decide +kernel) (by decide +kernel)
set_option maxRecDepth 20000 in
theorem gX11_isNext_X11_hireOf : GoodIn wsX11_isNext (wsV RX11 228 RX11 yX11_hireOf wsX11_hireOf) := goodIn_app (goodIn_of _ (by decide +kernel)) ggX11_isNext_X11_hireOf
set_option maxRecDepth 20000 in
theorem ggX11_isNext_X11_at : GoodIn wsX11_isNext wsX11_at := goodIn_r _ [63] (by decide +kernel) (by decide +kernel)
set_option maxRecDepth 20000 in
theorem gX11_isNext_X11_at : GoodIn wsX11_isNext (va_wsS RX11 217 yX11_at wsX11_at) := goodIn_app (goodIn_of _ (by decide +kernel)) ggX11_isNext_X11_at
theorem dX11_isNext_0 : decode cX11_isNext 0 = .ok (.aload_n 0, 1) := by decide +kernel
theorem dX11_isNext_1 : decode cX11_isNext 1 = .ok (.iload_n 1, 1) := by decide +kernel
theorem dX11_isNext_2 : decode cX11_isNext 2 = .ok (.iload_n 3, 1) := by decide +kernel
theorem dX11_isNext_3 : decode cX11_isNext 3 = .ok (.iload_n 2, 1) := by decide +kernel
theorem dX11_isNext_4 : decode cX11_isNext 4 = .ok (.invokevirtual 225, 3) := by decide +kernel
theorem dX11_isNext_7 : decode cX11_isNext 7 = .ok (.ifCond .ne 5, 3) := by decide +kernel
theorem dX11_isNext_10 : decode cX11_isNext 10 = .ok (.iconst 0, 1) := by decide +kernel
theorem dX11_isNext_11 : decode cX11_isNext 11 = .ok (.ireturn, 1) := by decide +kernel
theorem dX11_isNext_12 : decode cX11_isNext 12 = .ok (.iload_n 2, 1) := by decide +kernel
theorem dX11_isNext_13 : decode cX11_isNext 13 = .ok (.aload_n 0, 1) := by decide +kernel
theorem dX11_isNext_14 : decode cX11_isNext 14 = .ok (.iload_n 1, 1) := by decide +kernel
theorem dX11_isNext_15 : decode cX11_isNext 15 = .ok (.invokevirtual 122, 3) := by decide +kernel
theorem dX11_isNext_18 : decode cX11_isNext 18 = .ok (.iadd, 1) := by decide +kernel
theorem dX11_isNext_19 : decode cX11_isNext 19 = .ok (.istore 4, 2) := by decide +kernel
theorem dX11_isNext_21 : decode cX11_isNext 21 = .ok (.iload 4, 2) := by decide +kernel
theorem dX11_isNext_23 : decode cX11_isNext 23 = .ok (.aload_n 0, 1) := by decide +kernel
theorem dX11_isNext_24 : decode cX11_isNext 24 = .ok (.getfield 238, 3) := by decide +kernel
theorem dX11_isNext_27 : decode cX11_isNext 27 = .ok (.if_icmp .gt 39, 3) := by decide +kernel
theorem dX11_isNext_30 : decode cX11_isNext 30 = .ok (.aload_n 0, 1) := by decide +kernel
theorem dX11_isNext_31 : decode cX11_isNext 31 = .ok (.iload_n 1, 1) := by decide +kernel
theorem dX11_isNext_32 : decode cX11_isNext 32 = .ok (.invokevirtual 228, 3) := by decide +kernel
theorem dX11_isNext_35 : decode cX11_isNext 35 = .ok (.aload_n 0, 1) := by decide +kernel
theorem dX11_isNext_36 : decode cX11_isNext 36 = .ok (.getfield 29, 3) := by decide +kernel
theorem dX11_isNext_39 : decode cX11_isNext 39 = .ok (.iload 4, 2) := by decide +kernel
theorem dX11_isNext_41 : decode cX11_isNext 41 = .ok (.iload_n 3, 1) := by decide +kernel
theorem dX11_isNext_42 : decode cX11_isNext 42 = .ok (.iload_n 1, 1) := by decide +kernel
theorem dX11_isNext_43 : decode cX11_isNext 43 = .ok (.ixor, 1) := by decide +kernel
theorem dX11_isNext_44 : decode cX11_isNext 44 = .ok (.invokestatic 217, 3) := by decide +kernel
theorem dX11_isNext_47 : decode cX11_isNext 47 = .ok (.iaload, 1) := by decide +kernel
theorem dX11_isNext_48 : decode cX11_isNext 48 = .ok (.iadd, 1) := by decide +kernel
theorem dX11_isNext_49 : decode cX11_isNext 49 = .ok (.aload_n 0, 1) := by decide +kernel
theorem dX11_isNext_50 : decode cX11_isNext 50 = .ok (.getfield 29, 3) := by decide +kernel
theorem dX11_isNext_53 : decode cX11_isNext 53 = .ok (.iload_n 2, 1) := by decide +kernel
theorem dX11_isNext_54 : decode cX11_isNext 54 = .ok (.iload_n 3, 1) := by decide +kernel
theorem dX11_isNext_55 : decode cX11_isNext 55 = .ok (.invokestatic 217, 3) := by decide +kernel
theorem dX11_isNext_58 : decode cX11_isNext 58 = .ok (.iaload, 1) := by decide +kernel
theorem dX11_isNext_59 : decode cX11_isNext 59 = .ok (.if_icmp .ne 7, 3) := by decide +kernel
theorem dX11_isNext_62 : decode cX11_isNext 62 = .ok (.iconst 1, 1) := by decide +kernel
theorem dX11_isNext_63 : decode cX11_isNext 63 = .ok (.goto 4, 3) := by decide +kernel
theorem dX11_isNext_66 : decode cX11_isNext 66 = .ok (.iconst 0, 1) := by decide +kernel
theorem dX11_isNext_67 : decode cX11_isNext 67 = .ok (.ireturn, 1) := by decide +kernel
set_option maxRecDepth 20000 in
theorem ggX11_isBand_X11_all : GoodIn wsX11_isBand wsX11_all := goodIn_r _ [5, 6, 7, 8, 4, 9, 10, 14, 15, 16, 17, 18, 19, 20, 21, 22, 23, 24, 25, 26, 27, 28, 29, 30, 31, 32, 33, 34, 35, 36, 37, 38] (by decide +kernel) (by decide +kernel)
set_option maxRecDepth 20000 in
theorem gX11_isBand_X11_all : GoodIn wsX11_isBand (wsV RX11 125 RX11 yX11_all wsX11_all) := goodIn_app (goodIn_of _ (by decide +kernel)) ggX11_isBand_X11_all
set_option maxRecDepth 20000 in
theorem ggX11_isBand_X11_in : GoodIn wsX11_isBand wsX11_in := goodIn_r _ [13] (by decide +kernel) (by decide +kernel)
set_option maxRecDepth 20000 in
theorem gX11_isBand_X11_in : GoodIn wsX11_isBand (va_wsS RX11 57 yX11_in wsX11_in) := goodIn_app (goodIn_of _ (by decide +kernel)) ggX11_isBand_X11_in
theorem dX11_isBand_0 : decode cX11_isBand 0 = .ok (.iload_n 1, 1) := by decide +kernel
theorem dX11_isBand_1 : decode cX11_isBand 1 = .ok (.i2l, 1) := by decide +kernel
theorem dX11_isBand_2 : decode cX11_isBand 2 = .ok (.lconst 0, 1) := by decide +kernel
theorem dX11_isBand_3 : decode cX11_isBand 3 = .ok (.aload_n 0, 1) := by decide +kernel
theorem dX11_isBand_4 : decode cX11_isBand 4 = .ok (.invokevirtual 125, 3) := by decide +kernel
theorem dX11_isBand_7 : decode cX11_isBand 7 = .ok (.i2l, 1) := by decide +kernel
theorem dX11_isBand_8 : decode cX11_isBand 8 = .ok (.invokestatic 57, 3) := by decide +kernel
theorem dX11_isBand_11 : decode cX11_isBand 11 = .ok (.ireturn, 1) := by decide +kernel
set_option maxRecDepth 20000 in
theorem ggX11_least_X11_isBand : GoodIn wsX11_least wsX11_isBand := goodIn_r _ [8, 9, 10, 11, 7, 12, 13, 14, 15, 16, 17, 18, 19, 20, 118, 119, 120, 121, 122, 123, 124, 125, 126, 127, 128, 129, 130, 131, 132, 133, 134, 135, 136, 137, 138, 139, 140, 141, 142] (by decide +kernel) (by decide +kernel)
set_option maxRecDepth 20000 in
theorem gX11_least_X11_isBand : GoodIn wsX11_least (wsV RX11 250 RX11 yX11_isBand wsX11_isBand) := goodIn_app (goodIn_of _ (by decide +kernel)) ggX11_least_X11_isBand
set_option maxRecDepth 20000 in
theorem ggX11_least_X11_in : GoodIn wsX11_least wsX11_in := goodIn_r _ [20] (by decide +kernel) (by decide +kernel)
set_option maxRecDepth 20000 in
theorem gX11_least_X11_in : GoodIn wsX11_least (va_wsS RX11 57 yX11_in wsX11_in) := goodIn_app (goodIn_of _ (by decide +kernel)) ggX11_least_X11_in
set_option maxRecDepth 20000 in
theorem ggX11_least_X11_bad : GoodIn wsX11_least wsX11_bad := goodIn_r _ [24, 25, 118, 119, 120, 121, 122, 123, 124, 125, 126, 127, 128, 129, 130, 131, 132, 133, 134, 135, 136, 137, 138, 139, 140, 141, 142] (by decide +kernel) (by decide +kernel)
set_option maxRecDepth 20000 in
theorem gX11_least_X11_bad : GoodIn wsX11_least (wsV RX11 73 RX11 yX11_bad wsX11_bad) := goodIn_app (goodIn_of _ (by decide +kernel)) ggX11_least_X11_bad
set_option maxRecDepth 20000 in
theorem ggX11_least_X11_findLeast : GoodIn wsX11_least wsX11_findLeast := goodIn_r _ [29, 30, 2, 31, 32, 33, 34, 7, 35, 36, 37, 38, 39, 40, 41, 9, 10, 11, 12, 13, 14, 15, 16, 17, 42, 43, 44, 45, 46, 47, 48, 49, 50, 51, 52, 53, 54, 55, 56, 57, 58, 59, 60, 61, 62, 63, 64, 65, 66, 67, 68, 69, 70, 71, 72, 73, 74, 75, 76, 77, 78, 79, 80, 81, 82, 83, 84, 85, 86, 87, 88, 89, 90, 91, 92, 93, 94, 95, 96, 97, 98, 99, 100, 101, 102, 103, 104, 105, 106, 107, 118, 119, 120, 121, 122, 123, 124, 125, 126, 127, 128, 129, 130, 131, 132, 133, 134, 135, 136, 137, 138, 139, 140, 141, 142] (by decide +kernel) (by decide +kernel)
set_option maxRecDepth 20000 in
theorem gX11_least_X11_findLeast : GoodIn wsX11_least (wsV RX11 255 RX11 yX11_findLeast wsX11_findLeast) := goodIn_app (goodIn_of _ (by decide +kernel)) ggX11_least_X11_findLeast
set_option maxRecDepth 20000 in
theorem ggX11_least_X11_layRow : GoodIn wsX11_least wsX11_layRow := goodIn_r _ [111, 3, 2, 112, 113, 9, 10, 11, 7, 12, 13, 14, 15, 16, 17, 114, 115, 116, 117, 99, 49, 50, 51, 52, 30, 53, 54, 55, 56, 57, 58, 59, 60, 61, 62, 63, 64, 65, 66, 67, 68, 69, 70, 71, 72, 73, 74, 75, 76, 77, 78, 79, 80, 81, 82, 36, 83, 84, 85, 86, 87, 88, 89, 90, 91, 92, 93, 94, 104, 105, 106, 107, 42, 43, 44, 118, 119, 120, 121, 122, 123, 124, 125, 126, 127, 128, 129, 130, 131, 132, 133, 134, 135, 136, 137, 138, 139, 140, 141, 142] (by decide +kernel) (by decide +kernel)
set_option maxRecDepth 20000 in
theorem gX11_least_X11_layRow : GoodIn wsX11_least (wsV RX11 258 RX11 yX11_layRow wsX11_layRow) := goodIn_app (goodIn_of _ (by decide +kernel)) ggX11_least_X11_layRow
theorem dX11_least_0 : decode cX11_least 0 = .ok (.aload_n 0, 1) := by decide +kernel
theorem dX11_least_1 : decode cX11_least 1 = .ok (.iload_n 1, 1) := by decide +kernel
theorem dX11_least_2 : decode cX11_least 2 = .ok (.invokevirtual 250, 3) := by decide +kernel
theorem dX11_least_5 : decode cX11_least 5 = .ok (.ifCond .eq 15, 3) := by decide +kernel
theorem dX11_least_8 : decode cX11_least 8 = .ok (.iload_n 2, 1) := by decide +kernel
theorem dX11_least_9 : decode cX11_least 9 = .ok (.i2l, 1) := by decide +kernel
theorem dX11_least_10 : decode cX11_least 10 = .ok (.lconst 0, 1) := by decide +kernel
theorem dX11_least_11 : decode cX11_least 11 = .ok (.ldc2_w 253, 3) := by decide +kernel
theorem dX11_least_14 : decode cX11_least 14 = .ok (.invokestatic 57, 3) := by decide +kernel
theorem dX11_least_17 : decode cX11_least 17 = .ok (.ifCond .ne 10, 3) := by decide +kernel
theorem dX11_least_20 : decode cX11_least 20 = .ok (.aload_n 0, 1) := by decide +kernel
theorem dX11_least_21 : decode cX11_least 21 = .ok (.bipush (-2), 2) := by decide +kernel
theorem dX11_least_23 : decode cX11_least 23 = .ok (.invokevirtual 73, 3) := by decide +kernel
theorem dX11_least_26 : decode cX11_least 26 = .ok (.ireturn, 1) := by decide +kernel
theorem dX11_least_27 : decode cX11_least 27 = .ok (.aload_n 0, 1) := by decide +kernel
theorem dX11_least_28 : decode cX11_least 28 = .ok (.iload_n 1, 1) := by decide +kernel
theorem dX11_least_29 : decode cX11_least 29 = .ok (.iconst (-1), 1) := by decide +kernel
theorem dX11_least_30 : decode cX11_least 30 = .ok (.invokevirtual 255, 3) := by decide +kernel
theorem dX11_least_33 : decode cX11_least 33 = .ok (.istore_n 3, 1) := by decide +kernel
theorem dX11_least_34 : decode cX11_least 34 = .ok (.aload_n 0, 1) := by decide +kernel
theorem dX11_least_35 : decode cX11_least 35 = .ok (.getfield 238, 3) := by decide +kernel
theorem dX11_least_38 : decode cX11_least 38 = .ok (.iconst (-1), 1) := by decide +kernel
theorem dX11_least_39 : decode cX11_least 39 = .ok (.if_icmp .ne 5, 3) := by decide +kernel
theorem dX11_least_42 : decode cX11_least 42 = .ok (.iconst (-1), 1) := by decide +kernel
theorem dX11_least_43 : decode cX11_least 43 = .ok (.ireturn, 1) := by decide +kernel
theorem dX11_least_44 : decode cX11_least 44 = .ok (.aload_n 0, 1) := by decide +kernel
theorem dX11_least_45 : decode cX11_least 45 = .ok (.invokevirtual 258, 3) := by decide +kernel
theorem dX11_least_48 : decode cX11_least 48 = .ok (.iload_n 2, 1) := by decide +kernel
theorem dX11_least_49 : decode cX11_least 49 = .ok (.ifCond .ne 10, 3) := by decide +kernel
theorem dX11_least_52 : decode cX11_least 52 = .ok (.aload_n 0, 1) := by decide +kernel
theorem dX11_least_53 : decode cX11_least 53 = .ok (.getfield 238, 3) := by decide +kernel
theorem dX11_least_56 : decode cX11_least 56 = .ok (.goto 16, 3) := by decide +kernel
theorem dX11_least_59 : decode cX11_least 59 = .ok (.iload_n 2, 1) := by decide +kernel
theorem dX11_least_60 : decode cX11_least 60 = .ok (.iconst 1, 1) := by decide +kernel
theorem dX11_least_61 : decode cX11_least 61 = .ok (.if_icmp .ne 7, 3) := by decide +kernel
theorem dX11_least_64 : decode cX11_least 64 = .ok (.iload_n 3, 1) := by decide +kernel
theorem dX11_least_65 : decode cX11_least 65 = .ok (.goto 7, 3) := by decide +kernel
theorem dX11_least_68 : decode cX11_least 68 = .ok (.aload_n 0, 1) := by decide +kernel
theorem dX11_least_69 : decode cX11_least 69 = .ok (.getfield 244, 3) := by decide +kernel
theorem dX11_least_72 : decode cX11_least 72 = .ok (.ireturn, 1) := by decide +kernel
set_option maxRecDepth 20000 in
theorem ggX11_row_X11_isBand : GoodIn wsX11_row wsX11_isBand := goodIn_r _ [9, 10, 11, 12, 8, 13, 14, 15, 16, 17, 18, 19, 20, 21, 117, 118, 119, 120, 121, 122, 123, 124, 125, 126, 127, 128, 129, 130, 131, 132, 133, 134, 135, 136, 137, 138, 139, 140, 141] (by decide +kernel) (by decide +kernel)
set_option maxRecDepth 20000 in
theorem gX11_row_X11_isBand : GoodIn wsX11_row (wsV RX11 250 RX11 yX11_isBand wsX11_isBand) := goodIn_app (goodIn_of _ (by decide +kernel)) ggX11_row_X11_isBand
set_option maxRecDepth 20000 in
theorem ggX11_row_X11_bad : GoodIn wsX11_row wsX11_bad := goodIn_r _ [25, 26, 117, 118, 119, 120, 121, 122, 123, 124, 125, 126, 127, 128, 129, 130, 131, 132, 133, 134, 135, 136, 137, 138, 139, 140, 141] (by decide +kernel) (by decide +kernel)
set_option maxRecDepth 20000 in
theorem gX11_row_X11_bad : GoodIn wsX11_row (wsV RX11 73 RX11 yX11_bad wsX11_bad) := goodIn_app (goodIn_of _ (by decide +kernel)) ggX11_row_X11_bad
set_option maxRecDepth 20000 in
theorem ggX11_row_X11_findLeast : GoodIn wsX11_row wsX11_findLeast := goodIn_r _ [30, 31, 1, 32, 33, 34, 35, 8, 36, 37, 38, 39, 40, 41, 42, 10, 11, 12, 13, 14, 15, 16, 17, 18, 43, 44, 45, 46, 47, 48, 49, 50, 51, 52, 53, 54, 55, 56, 57, 58, 59, 60, 61, 62, 63, 64, 65, 66, 67, 68, 69, 70, 71, 72, 73, 74, 75, 76, 77, 78, 79, 80, 81, 82, 83, 84, 85, 86, 87, 88, 89, 90, 91, 92, 93, 94, 95, 96, 97, 98, 99, 100, 101, 102, 103, 104, 105, 106, 107, 108, 117, 118, 119, 120, 121, 122, 123, 124, 125, 126, 127, 128, 129, 130, 131, 132, 133, 134, 135, 136, 137, 138, 139, 140, 141] (by decide +kernel) (by decide +kernel)
set_option maxRecDepth 20000 in
theorem gX11_row_X11_findLeast : GoodIn wsX11_row (wsV RX11 255 RX11 yX11_findLeast wsX11_findLeast) := goodIn_app (goodIn_of _ (by decide +kernel)) ggX11_row_X11_findLeast
set_option maxRecDepth 20000 in
theorem ggX11_row_X11_layRow : GoodIn wsX11_row wsX11_layRow := goodIn_r _ [112, 2, 1, 3, 4, 10, 11, 12, 8, 13, 14, 15, 16, 17, 18, 113, 114, 115, 116, 100, 50, 51, 52, 53, 31, 54, 55, 56, 57, 58, 59, 60, 61, 62, 63, 64, 65, 66, 67, 68, 69, 70, 71, 72, 73, 74, 75, 76, 77, 78, 79, 80, 81, 82, 83, 37, 84, 85, 86, 87, 88, 89, 90, 91, 92, 93, 94, 95, 105, 106, 107, 108, 43, 44, 45, 117, 118, 119, 120, 121, 122, 123, 124, 125, 126, 127, 128, 129, 130, 131, 132, 133, 134, 135, 136, 137, 138, 139, 140, 141] (by decide +kernel) (by decide +kernel)
set_option maxRecDepth 20000 in
theorem gX11_row_X11_layRow : GoodIn wsX11_row (wsV RX11 258 RX11 yX11_layRow wsX11_layRow) := goodIn_app (goodIn_of _ (by decide +kernel)) ggX11_row_X11_layRow
theorem dX11_row_0 : decode cX11_row 0 = .ok (.aload_n 0, 1) := by decide +kernel
theorem dX11_row_1 : decode cX11_row 1 = .ok (.iload_n 1, 1) := by decide +kernel
theorem dX11_row_2 : decode cX11_row 2 = .ok (.invokevirtual 250, 3) := by decide +kernel
theorem dX11_row_5 : decode cX11_row 5 = .ok (.ifCond .eq 7, 3) := by decide +kernel
theorem dX11_row_8 : decode cX11_row 8 = .ok (.iload_n 2, 1) := by decide +kernel
theorem dX11_row_9 : decode cX11_row 9 = .ok (.ifCond .ge 10, 3) := by decide +kernel
theorem dX11_row_12 : decode cX11_row 12 = .ok (.aload_n 0, 1) := by decide +kernel
theorem dX11_row_13 : decode cX11_row 13 = .ok (.bipush (-10), 2) := by decide +kernel
theorem dX11_row_15 : decode cX11_row 15 = .ok (.invokevirtual 73, 3) := by decide +kernel
theorem dX11_row_18 : decode cX11_row 18 = .ok (.ireturn, 1) := by decide +kernel
theorem dX11_row_19 : decode cX11_row 19 = .ok (.aload_n 0, 1) := by decide +kernel
theorem dX11_row_20 : decode cX11_row 20 = .ok (.iload_n 1, 1) := by decide +kernel
theorem dX11_row_21 : decode cX11_row 21 = .ok (.iconst (-1), 1) := by decide +kernel
theorem dX11_row_22 : decode cX11_row 22 = .ok (.invokevirtual 255, 3) := by decide +kernel
theorem dX11_row_25 : decode cX11_row 25 = .ok (.istore_n 3, 1) := by decide +kernel
theorem dX11_row_26 : decode cX11_row 26 = .ok (.aload_n 0, 1) := by decide +kernel
theorem dX11_row_27 : decode cX11_row 27 = .ok (.getfield 238, 3) := by decide +kernel
theorem dX11_row_30 : decode cX11_row 30 = .ok (.iconst (-1), 1) := by decide +kernel
theorem dX11_row_31 : decode cX11_row 31 = .ok (.if_icmp .ne 6, 3) := by decide +kernel
theorem dX11_row_34 : decode cX11_row 34 = .ok (.bipush (-5), 2) := by decide +kernel
theorem dX11_row_36 : decode cX11_row 36 = .ok (.ireturn, 1) := by decide +kernel
theorem dX11_row_37 : decode cX11_row 37 = .ok (.aload_n 0, 1) := by decide +kernel
theorem dX11_row_38 : decode cX11_row 38 = .ok (.invokevirtual 258, 3) := by decide +kernel
theorem dX11_row_41 : decode cX11_row 41 = .ok (.iload_n 2, 1) := by decide +kernel
theorem dX11_row_42 : decode cX11_row 42 = .ok (.aload_n 0, 1) := by decide +kernel
theorem dX11_row_43 : decode cX11_row 43 = .ok (.getfield 244, 3) := by decide +kernel
theorem dX11_row_46 : decode cX11_row 46 = .ok (.if_icmp .ge 22, 3) := by decide +kernel
theorem dX11_row_49 : decode cX11_row 49 = .ok (.bipush 64, 2) := by decide +kernel
theorem dX11_row_51 : decode cX11_row 51 = .ok (.aload_n 0, 1) := by decide +kernel
theorem dX11_row_52 : decode cX11_row 52 = .ok (.getfield 32, 3) := by decide +kernel
theorem dX11_row_55 : decode cX11_row 55 = .ok (.iload_n 2, 1) := by decide +kernel
theorem dX11_row_56 : decode cX11_row 56 = .ok (.iaload, 1) := by decide +kernel
theorem dX11_row_57 : decode cX11_row 57 = .ok (.imul, 1) := by decide +kernel
theorem dX11_row_58 : decode cX11_row 58 = .ok (.aload_n 0, 1) := by decide +kernel
theorem dX11_row_59 : decode cX11_row 59 = .ok (.getfield 35, 3) := by decide +kernel
theorem dX11_row_62 : decode cX11_row 62 = .ok (.iload_n 2, 1) := by decide +kernel
theorem dX11_row_63 : decode cX11_row 63 = .ok (.iaload, 1) := by decide +kernel
theorem dX11_row_64 : decode cX11_row 64 = .ok (.iadd, 1) := by decide +kernel
theorem dX11_row_65 : decode cX11_row 65 = .ok (.goto 5, 3) := by decide +kernel
theorem dX11_row_68 : decode cX11_row 68 = .ok (.bipush (-5), 2) := by decide +kernel
theorem dX11_row_70 : decode cX11_row 70 = .ok (.ireturn, 1) := by decide +kernel
set_option maxRecDepth 20000 in
theorem ggX11_worth_X11_isBand : GoodIn wsX11_worth wsX11_isBand := goodIn_r _ [6, 7, 8, 9, 5, 10, 11, 12, 13, 14, 15, 16, 17, 18, 114, 115, 116, 117, 118, 119, 120, 121, 122, 123, 124, 125, 126, 127, 128, 129, 130, 131, 132, 133, 134, 135, 136, 137, 138] (by decide +kernel) (by decide +kernel)
set_option maxRecDepth 20000 in
theorem gX11_worth_X11_isBand : GoodIn wsX11_worth (wsV RX11 250 RX11 yX11_isBand wsX11_isBand) := goodIn_app (goodIn_of _ (by decide +kernel)) ggX11_worth_X11_isBand
set_option maxRecDepth 20000 in
theorem ggX11_worth_X11_isPorter : GoodIn wsX11_worth wsX11_isPorter := goodIn_r _ [22, 11, 12, 13, 5, 14, 15, 16, 17, 18, 114, 115, 116, 117, 118, 119, 120, 121, 122, 123, 124, 125, 126, 127, 128, 129, 130, 131, 132, 133, 134, 135, 136, 137, 138] (by decide +kernel) (by decide +kernel)
set_option maxRecDepth 20000 in
theorem gX11_worth_X11_isPorter : GoodIn wsX11_worth (wsV RX11 92 RX11 yX11_isPorter wsX11_isPorter) := goodIn_app (goodIn_of _ (by decide +kernel)) ggX11_worth_X11_isPorter
set_option maxRecDepth 20000 in
theorem ggX11_worth_X11_bad : GoodIn wsX11_worth wsX11_bad := goodIn_r _ [26, 27, 114, 115, 116, 117, 118, 119, 120, 121, 122, 123, 124, 125, 126, 127, 128, 129, 130, 131, 132, 133, 134, 135, 136, 137, 138] (by decide +kernel) (by decide +kernel)
set_option maxRecDepth 20000 in
theorem gX11_worth_X11_bad : GoodIn wsX11_worth (wsV RX11 73 RX11 yX11_bad wsX11_bad) := goodIn_app (goodIn_of _ (by decide +kernel)) ggX11_worth_X11_bad
set_option maxRecDepth 20000 in
theorem ggX11_worth_X11_findLeast : GoodIn wsX11_worth wsX11_findLeast := goodIn_r _ [31, 32, 33, 1, 34, 35, 36, 5, 37, 38, 39, 40, 41, 42, 43, 7, 8, 9, 10, 11, 12, 13, 14, 15, 44, 45, 46, 47, 48, 49, 50, 51, 52, 53, 54, 55, 56, 57, 58, 59, 60, 61, 62, 63, 64, 65, 66, 67, 68, 69, 70, 71, 72, 73, 74, 75, 76, 77, 78, 79, 80, 81, 82, 83, 84, 85, 86, 87, 88, 89, 90, 91, 92, 93, 94, 95, 96, 97, 98, 99, 100, 101, 102, 103, 104, 105, 106, 107, 108, 109, 114, 115, 116, 117, 118, 119, 120, 121, 122, 123, 124, 125, 126, 127, 128, 129, 130, 131, 132, 133, 134, 135, 136, 137, 138] (by decide +kernel) (by decide +kernel)
set_option maxRecDepth 20000 in
theorem gX11_worth_X11_findLeast : GoodIn wsX11_worth (wsV RX11 255 RX11 yX11_findLeast wsX11_findLeast) := goodIn_app (goodIn_of _ (by decide +kernel)) ggX11_worth_X11_findLeast
set_option maxRecDepth 20000 in
theorem ggX11_worth_X11_no : GoodIn wsX11_worth wsX11_no := goodIn_r _ [113, 27, 114, 115, 116, 117, 118, 119, 120, 121, 122, 123, 124, 125, 126, 127, 128, 129, 130, 131, 132, 133, 134, 135, 136, 137, 138] (by decide +kernel) (by decide +kernel)
set_option maxRecDepth 20000 in
theorem gX11_worth_X11_no : GoodIn wsX11_worth (wsV RX11 261 RX11 yX11_no wsX11_no) := goodIn_app (goodIn_of _ (by decide +kernel)) ggX11_worth_X11_no
theorem dX11_worth_0 : decode cX11_worth 0 = .ok (.aload_n 0, 1) := by decide +kernel
theorem dX11_worth_1 : decode cX11_worth 1 = .ok (.iload_n 1, 1) := by decide +kernel
theorem dX11_worth_2 : decode cX11_worth 2 = .ok (.invokevirtual 250, 3) := by decide +kernel
theorem dX11_worth_5 : decode cX11_worth 5 = .ok (.ifCond .eq 20, 3) := by decide +kernel
theorem dX11_worth_8 : decode cX11_worth 8 = .ok (.aload_n 0, 1) := by decide +kernel
theorem dX11_worth_9 : decode cX11_worth 9 = .ok (.iload_n 2, 1) := by decide +kernel
theorem dX11_worth_10 : decode cX11_worth 10 = .ok (.invokevirtual 92, 3) := by decide +kernel
theorem dX11_worth_13 : decode cX11_worth 13 = .ok (.ifCond .eq 12, 3) := by decide +kernel
theorem dX11_worth_16 : decode cX11_worth 16 = .ok (.iload_n 1, 1) := by decide +kernel
theorem dX11_worth_17 : decode cX11_worth 17 = .ok (.iload_n 2, 1) := by decide +kernel
theorem dX11_worth_18 : decode cX11_worth 18 = .ok (.ishr, 1) := by decide +kernel
theorem dX11_worth_19 : decode cX11_worth 19 = .ok (.iconst 1, 1) := by decide +kernel
theorem dX11_worth_20 : decode cX11_worth 20 = .ok (.iand, 1) := by decide +kernel
theorem dX11_worth_21 : decode cX11_worth 21 = .ok (.iconst 1, 1) := by decide +kernel
theorem dX11_worth_22 : decode cX11_worth 22 = .ok (.if_icmp .ne 11, 3) := by decide +kernel
theorem dX11_worth_25 : decode cX11_worth 25 = .ok (.aload_n 0, 1) := by decide +kernel
theorem dX11_worth_26 : decode cX11_worth 26 = .ok (.sipush (-1000), 3) := by decide +kernel
theorem dX11_worth_29 : decode cX11_worth 29 = .ok (.invokevirtual 73, 3) := by decide +kernel
theorem dX11_worth_32 : decode cX11_worth 32 = .ok (.ireturn, 1) := by decide +kernel
theorem dX11_worth_33 : decode cX11_worth 33 = .ok (.aload_n 0, 1) := by decide +kernel
theorem dX11_worth_34 : decode cX11_worth 34 = .ok (.iload_n 1, 1) := by decide +kernel
theorem dX11_worth_35 : decode cX11_worth 35 = .ok (.iconst (-1), 1) := by decide +kernel
theorem dX11_worth_36 : decode cX11_worth 36 = .ok (.invokevirtual 255, 3) := by decide +kernel
theorem dX11_worth_39 : decode cX11_worth 39 = .ok (.istore_n 3, 1) := by decide +kernel
theorem dX11_worth_40 : decode cX11_worth 40 = .ok (.aload_n 0, 1) := by decide +kernel
theorem dX11_worth_41 : decode cX11_worth 41 = .ok (.iload_n 1, 1) := by decide +kernel
theorem dX11_worth_42 : decode cX11_worth 42 = .ok (.iload_n 2, 1) := by decide +kernel
theorem dX11_worth_43 : decode cX11_worth 43 = .ok (.invokevirtual 255, 3) := by decide +kernel
theorem dX11_worth_46 : decode cX11_worth 46 = .ok (.istore 4, 2) := by decide +kernel
theorem dX11_worth_48 : decode cX11_worth 48 = .ok (.iload_n 3, 1) := by decide +kernel
theorem dX11_worth_49 : decode cX11_worth 49 = .ok (.ldc 220, 2) := by decide +kernel
theorem dX11_worth_51 : decode cX11_worth 51 = .ok (.if_icmp .eq 10, 3) := by decide +kernel
theorem dX11_worth_54 : decode cX11_worth 54 = .ok (.iload 4, 2) := by decide +kernel
theorem dX11_worth_56 : decode cX11_worth 56 = .ok (.ldc 220, 2) := by decide +kernel
theorem dX11_worth_58 : decode cX11_worth 58 = .ok (.if_icmp .ne 13, 3) := by decide +kernel
theorem dX11_worth_61 : decode cX11_worth 61 = .ok (.aload_n 0, 1) := by decide +kernel
theorem dX11_worth_62 : decode cX11_worth 62 = .ok (.sipush (-2000), 3) := by decide +kernel
theorem dX11_worth_65 : decode cX11_worth 65 = .ok (.invokevirtual 261, 3) := by decide +kernel
theorem dX11_worth_68 : decode cX11_worth 68 = .ok (.goto 7, 3) := by decide +kernel
theorem dX11_worth_71 : decode cX11_worth 71 = .ok (.iload 4, 2) := by decide +kernel
theorem dX11_worth_73 : decode cX11_worth 73 = .ok (.iload_n 3, 1) := by decide +kernel
theorem dX11_worth_74 : decode cX11_worth 74 = .ok (.isub, 1) := by decide +kernel
theorem dX11_worth_75 : decode cX11_worth 75 = .ok (.ireturn, 1) := by decide +kernel
set_option maxRecDepth 20000 in
theorem ggX11_turnsOf_X11_all : GoodIn wsX11_turnsOf wsX11_all := goodIn_r _ [8, 9, 10, 11, 7, 12, 13, 45, 46, 47, 48, 49, 50, 51, 52, 53, 54, 55, 56, 57, 58, 59, 60, 61, 62, 63, 64, 65, 66, 67, 68, 69] (by decide +kernel) (by decide +kernel)
set_option maxRecDepth 20000 in
theorem gX11_turnsOf_X11_all : GoodIn wsX11_turnsOf (wsV RX11 125 RX11 yX11_all wsX11_all) := goodIn_app (goodIn_of _ (by decide +kernel)) ggX11_turnsOf_X11_all
set_option maxRecDepth 20000 in
theorem ggX11_turnsOf_X11_manyIn : GoodIn wsX11_turnsOf wsX11_manyIn := goodIn_r _ [16] (by decide +kernel) (by decide +kernel)
set_option maxRecDepth 20000 in
theorem gX11_turnsOf_X11_manyIn : GoodIn wsX11_turnsOf (va_wsS RX11 108 yX11_manyIn wsX11_manyIn) := goodIn_app (goodIn_of _ (by decide +kernel)) ggX11_turnsOf_X11_manyIn
set_option maxRecDepth 20000 in
theorem ggX11_turnsOf_X11_anyNever : GoodIn wsX11_turnsOf wsX11_anyNever := goodIn_r _ [20, 9, 10, 11, 7, 12, 13, 21, 22, 23, 24, 25, 26, 27, 28, 45, 46, 47, 48, 49, 50, 51, 52, 53, 54, 55, 56, 57, 58, 59, 60, 61, 62, 63, 64, 65, 66, 67, 68, 69] (by decide +kernel) (by decide +kernel)
set_option maxRecDepth 20000 in
theorem gX11_turnsOf_X11_anyNever : GoodIn wsX11_turnsOf (wsV RX11 111 RX11 yX11_anyNever wsX11_anyNever) := goodIn_app (goodIn_of _ (by decide +kernel)) ggX11_turnsOf_X11_anyNever
set_option maxRecDepth 20000 in
theorem ggX11_turnsOf_X11_firstIn : GoodIn wsX11_turnsOf wsX11_firstIn := goodIn_r _ [31] (by decide +kernel) (by decide +kernel)
set_option maxRecDepth 20000 in
theorem gX11_turnsOf_X11_firstIn : GoodIn wsX11_turnsOf (va_wsS RX11 115 yX11_firstIn wsX11_firstIn) := goodIn_app (goodIn_of _ (by decide +kernel)) ggX11_turnsOf_X11_firstIn
set_option maxRecDepth 20000 in
theorem ggX11_turnsOf_X11_areUnlike : GoodIn wsX11_turnsOf wsX11_areUnlike := goodIn_r _ [35, 36, 37, 38, 39, 7, 40, 25, 26, 27, 28, 13, 41, 42, 43, 44, 45, 46, 47, 48, 49, 50, 51, 52, 53, 54, 55, 56, 57, 58, 59, 60, 61, 62, 63, 64, 65, 66, 67, 68, 69] (by decide +kernel) (by decide +kernel)
set_option maxRecDepth 20000 in
theorem gX11_turnsOf_X11_areUnlike : GoodIn wsX11_turnsOf (wsV RX11 118 RX11 yX11_areUnlike wsX11_areUnlike) := goodIn_app (goodIn_of _ (by decide +kernel)) ggX11_turnsOf_X11_areUnlike
theorem dX11_turnsOf_0 : decode cX11_turnsOf 0 = .ok (.iconst 0, 1) := by decide +kernel
theorem dX11_turnsOf_1 : decode cX11_turnsOf 1 = .ok (.istore_n 2, 1) := by decide +kernel
theorem dX11_turnsOf_2 : decode cX11_turnsOf 2 = .ok (.iload_n 2, 1) := by decide +kernel
theorem dX11_turnsOf_3 : decode cX11_turnsOf 3 = .ok (.bipush 64, 2) := by decide +kernel
theorem dX11_turnsOf_5 : decode cX11_turnsOf 5 = .ok (.if_icmp .ge 17, 3) := by decide +kernel
theorem dX11_turnsOf_8 : decode cX11_turnsOf 8 = .ok (.aload_n 0, 1) := by decide +kernel
theorem dX11_turnsOf_9 : decode cX11_turnsOf 9 = .ok (.getfield 41, 3) := by decide +kernel
theorem dX11_turnsOf_12 : decode cX11_turnsOf 12 = .ok (.iload_n 2, 1) := by decide +kernel
theorem dX11_turnsOf_13 : decode cX11_turnsOf 13 = .ok (.ldc 220, 2) := by decide +kernel
theorem dX11_turnsOf_15 : decode cX11_turnsOf 15 = .ok (.iastore, 1) := by decide +kernel
theorem dX11_turnsOf_16 : decode cX11_turnsOf 16 = .ok (.iinc 2 1, 3) := by decide +kernel
theorem dX11_turnsOf_19 : decode cX11_turnsOf 19 = .ok (.goto (-17), 3) := by decide +kernel
theorem dX11_turnsOf_22 : decode cX11_turnsOf 22 = .ok (.aload_n 0, 1) := by decide +kernel
theorem dX11_turnsOf_23 : decode cX11_turnsOf 23 = .ok (.getfield 41, 3) := by decide +kernel
theorem dX11_turnsOf_26 : decode cX11_turnsOf 26 = .ok (.iconst 0, 1) := by decide +kernel
theorem dX11_turnsOf_27 : decode cX11_turnsOf 27 = .ok (.iconst 0, 1) := by decide +kernel
theorem dX11_turnsOf_28 : decode cX11_turnsOf 28 = .ok (.iastore, 1) := by decide +kernel
theorem dX11_turnsOf_29 : decode cX11_turnsOf 29 = .ok (.aload_n 0, 1) := by decide +kernel
theorem dX11_turnsOf_30 : decode cX11_turnsOf 30 = .ok (.getfield 44, 3) := by decide +kernel
theorem dX11_turnsOf_33 : decode cX11_turnsOf 33 = .ok (.iconst 0, 1) := by decide +kernel
theorem dX11_turnsOf_34 : decode cX11_turnsOf 34 = .ok (.iconst 0, 1) := by decide +kernel
theorem dX11_turnsOf_35 : decode cX11_turnsOf 35 = .ok (.iastore, 1) := by decide +kernel
theorem dX11_turnsOf_36 : decode cX11_turnsOf 36 = .ok (.iconst 1, 1) := by decide +kernel
theorem dX11_turnsOf_37 : decode cX11_turnsOf 37 = .ok (.istore_n 2, 1) := by decide +kernel
theorem dX11_turnsOf_38 : decode cX11_turnsOf 38 = .ok (.iconst 0, 1) := by decide +kernel
theorem dX11_turnsOf_39 : decode cX11_turnsOf 39 = .ok (.istore_n 3, 1) := by decide +kernel
theorem dX11_turnsOf_40 : decode cX11_turnsOf 40 = .ok (.iload_n 3, 1) := by decide +kernel
theorem dX11_turnsOf_41 : decode cX11_turnsOf 41 = .ok (.iload_n 2, 1) := by decide +kernel
theorem dX11_turnsOf_42 : decode cX11_turnsOf 42 = .ok (.if_icmp .ge 181, 3) := by decide +kernel
theorem dX11_turnsOf_45 : decode cX11_turnsOf 45 = .ok (.aload_n 0, 1) := by decide +kernel
theorem dX11_turnsOf_46 : decode cX11_turnsOf 46 = .ok (.getfield 44, 3) := by decide +kernel
theorem dX11_turnsOf_49 : decode cX11_turnsOf 49 = .ok (.iload_n 3, 1) := by decide +kernel
theorem dX11_turnsOf_50 : decode cX11_turnsOf 50 = .ok (.iaload, 1) := by decide +kernel
theorem dX11_turnsOf_51 : decode cX11_turnsOf 51 = .ok (.istore 4, 2) := by decide +kernel
theorem dX11_turnsOf_53 : decode cX11_turnsOf 53 = .ok (.iconst 1, 1) := by decide +kernel
theorem dX11_turnsOf_54 : decode cX11_turnsOf 54 = .ok (.istore 5, 2) := by decide +kernel
theorem dX11_turnsOf_56 : decode cX11_turnsOf 56 = .ok (.iload 5, 2) := by decide +kernel
theorem dX11_turnsOf_58 : decode cX11_turnsOf 58 = .ok (.aload_n 0, 1) := by decide +kernel
theorem dX11_turnsOf_59 : decode cX11_turnsOf 59 = .ok (.invokevirtual 125, 3) := by decide +kernel
theorem dX11_turnsOf_62 : decode cX11_turnsOf 62 = .ok (.if_icmp .gt 155, 3) := by decide +kernel
theorem dX11_turnsOf_65 : decode cX11_turnsOf 65 = .ok (.iload 4, 2) := by decide +kernel
theorem dX11_turnsOf_67 : decode cX11_turnsOf 67 = .ok (.iload 5, 2) := by decide +kernel
theorem dX11_turnsOf_69 : decode cX11_turnsOf 69 = .ok (.iand, 1) := by decide +kernel
theorem dX11_turnsOf_70 : decode cX11_turnsOf 70 = .ok (.ifCond .eq 13, 3) := by decide +kernel
theorem dX11_turnsOf_73 : decode cX11_turnsOf 73 = .ok (.iload 4, 2) := by decide +kernel
theorem dX11_turnsOf_75 : decode cX11_turnsOf 75 = .ok (.iload 5, 2) := by decide +kernel
theorem dX11_turnsOf_77 : decode cX11_turnsOf 77 = .ok (.iand, 1) := by decide +kernel
theorem dX11_turnsOf_78 : decode cX11_turnsOf 78 = .ok (.iload 5, 2) := by decide +kernel
theorem dX11_turnsOf_80 : decode cX11_turnsOf 80 = .ok (.if_icmp .ne 7, 3) := by decide +kernel
theorem dX11_turnsOf_83 : decode cX11_turnsOf 83 = .ok (.iconst 1, 1) := by decide +kernel
theorem dX11_turnsOf_84 : decode cX11_turnsOf 84 = .ok (.goto 4, 3) := by decide +kernel
theorem dX11_turnsOf_87 : decode cX11_turnsOf 87 = .ok (.iconst 0, 1) := by decide +kernel
theorem dX11_turnsOf_88 : decode cX11_turnsOf 88 = .ok (.istore 6, 2) := by decide +kernel
theorem dX11_turnsOf_90 : decode cX11_turnsOf 90 = .ok (.iload 5, 2) := by decide +kernel
theorem dX11_turnsOf_92 : decode cX11_turnsOf 92 = .ok (.iload_n 1, 1) := by decide +kernel
theorem dX11_turnsOf_93 : decode cX11_turnsOf 93 = .ok (.iconst (-1), 1) := by decide +kernel
theorem dX11_turnsOf_94 : decode cX11_turnsOf 94 = .ok (.ixor, 1) := by decide +kernel
theorem dX11_turnsOf_95 : decode cX11_turnsOf 95 = .ok (.iand, 1) := by decide +kernel
theorem dX11_turnsOf_96 : decode cX11_turnsOf 96 = .ok (.ifCond .ne 31, 3) := by decide +kernel
theorem dX11_turnsOf_99 : decode cX11_turnsOf 99 = .ok (.iload 6, 2) := by decide +kernel
theorem dX11_turnsOf_101 : decode cX11_turnsOf 101 = .ok (.ifCond .eq 26, 3) := by decide +kernel
theorem dX11_turnsOf_104 : decode cX11_turnsOf 104 = .ok (.iload 5, 2) := by decide +kernel
theorem dX11_turnsOf_106 : decode cX11_turnsOf 106 = .ok (.invokestatic 108, 3) := by decide +kernel
theorem dX11_turnsOf_109 : decode cX11_turnsOf 109 = .ok (.iconst 2, 1) := by decide +kernel
theorem dX11_turnsOf_110 : decode cX11_turnsOf 110 = .ok (.if_icmp .ne 17, 3) := by decide +kernel
theorem dX11_turnsOf_113 : decode cX11_turnsOf 113 = .ok (.aload_n 0, 1) := by decide +kernel
theorem dX11_turnsOf_114 : decode cX11_turnsOf 114 = .ok (.iload 5, 2) := by decide +kernel
theorem dX11_turnsOf_116 : decode cX11_turnsOf 116 = .ok (.iconst 0, 1) := by decide +kernel
theorem dX11_turnsOf_117 : decode cX11_turnsOf 117 = .ok (.invokevirtual 111, 3) := by decide +kernel
theorem dX11_turnsOf_120 : decode cX11_turnsOf 120 = .ok (.ifCond .ne 7, 3) := by decide +kernel
theorem dX11_turnsOf_123 : decode cX11_turnsOf 123 = .ok (.iconst 1, 1) := by decide +kernel
theorem dX11_turnsOf_124 : decode cX11_turnsOf 124 = .ok (.goto 4, 3) := by decide +kernel
theorem dX11_turnsOf_127 : decode cX11_turnsOf 127 = .ok (.iconst 0, 1) := by decide +kernel
theorem dX11_turnsOf_128 : decode cX11_turnsOf 128 = .ok (.istore 7, 2) := by decide +kernel
theorem dX11_turnsOf_130 : decode cX11_turnsOf 130 = .ok (.iload 7, 2) := by decide +kernel
theorem dX11_turnsOf_132 : decode cX11_turnsOf 132 = .ok (.ifCond .eq 79, 3) := by decide +kernel
theorem dX11_turnsOf_135 : decode cX11_turnsOf 135 = .ok (.aload_n 0, 1) := by decide +kernel
theorem dX11_turnsOf_136 : decode cX11_turnsOf 136 = .ok (.iload 5, 2) := by decide +kernel
theorem dX11_turnsOf_138 : decode cX11_turnsOf 138 = .ok (.invokestatic 115, 3) := by decide +kernel
theorem dX11_turnsOf_141 : decode cX11_turnsOf 141 = .ok (.iload 5, 2) := by decide +kernel
theorem dX11_turnsOf_143 : decode cX11_turnsOf 143 = .ok (.iconst 1, 1) := by decide +kernel
theorem dX11_turnsOf_144 : decode cX11_turnsOf 144 = .ok (.iload 5, 2) := by decide +kernel
theorem dX11_turnsOf_146 : decode cX11_turnsOf 146 = .ok (.invokestatic 115, 3) := by decide +kernel
theorem dX11_turnsOf_149 : decode cX11_turnsOf 149 = .ok (.ishl, 1) := by decide +kernel
theorem dX11_turnsOf_150 : decode cX11_turnsOf 150 = .ok (.iconst (-1), 1) := by decide +kernel
theorem dX11_turnsOf_151 : decode cX11_turnsOf 151 = .ok (.ixor, 1) := by decide +kernel
theorem dX11_turnsOf_152 : decode cX11_turnsOf 152 = .ok (.iand, 1) := by decide +kernel
theorem dX11_turnsOf_153 : decode cX11_turnsOf 153 = .ok (.invokestatic 115, 3) := by decide +kernel
theorem dX11_turnsOf_156 : decode cX11_turnsOf 156 = .ok (.iconst 0, 1) := by decide +kernel
theorem dX11_turnsOf_157 : decode cX11_turnsOf 157 = .ok (.invokevirtual 118, 3) := by decide +kernel
theorem dX11_turnsOf_160 : decode cX11_turnsOf 160 = .ok (.ifCond .eq 51, 3) := by decide +kernel
theorem dX11_turnsOf_163 : decode cX11_turnsOf 163 = .ok (.aload_n 0, 1) := by decide +kernel
theorem dX11_turnsOf_164 : decode cX11_turnsOf 164 = .ok (.getfield 41, 3) := by decide +kernel
theorem dX11_turnsOf_167 : decode cX11_turnsOf 167 = .ok (.iload 4, 2) := by decide +kernel
theorem dX11_turnsOf_169 : decode cX11_turnsOf 169 = .ok (.iload 5, 2) := by decide +kernel
theorem dX11_turnsOf_171 : decode cX11_turnsOf 171 = .ok (.ixor, 1) := by decide +kernel
theorem dX11_turnsOf_172 : decode cX11_turnsOf 172 = .ok (.iaload, 1) := by decide +kernel
theorem dX11_turnsOf_173 : decode cX11_turnsOf 173 = .ok (.ldc 220, 2) := by decide +kernel
theorem dX11_turnsOf_175 : decode cX11_turnsOf 175 = .ok (.if_icmp .ne 36, 3) := by decide +kernel
theorem dX11_turnsOf_178 : decode cX11_turnsOf 178 = .ok (.aload_n 0, 1) := by decide +kernel
theorem dX11_turnsOf_179 : decode cX11_turnsOf 179 = .ok (.getfield 41, 3) := by decide +kernel
theorem dX11_turnsOf_182 : decode cX11_turnsOf 182 = .ok (.iload 4, 2) := by decide +kernel
theorem dX11_turnsOf_184 : decode cX11_turnsOf 184 = .ok (.iload 5, 2) := by decide +kernel
theorem dX11_turnsOf_186 : decode cX11_turnsOf 186 = .ok (.ixor, 1) := by decide +kernel
theorem dX11_turnsOf_187 : decode cX11_turnsOf 187 = .ok (.aload_n 0, 1) := by decide +kernel
theorem dX11_turnsOf_188 : decode cX11_turnsOf 188 = .ok (.getfield 41, 3) := by decide +kernel
theorem dX11_turnsOf_191 : decode cX11_turnsOf 191 = .ok (.iload 4, 2) := by decide +kernel
theorem dX11_turnsOf_193 : decode cX11_turnsOf 193 = .ok (.iaload, 1) := by decide +kernel
theorem dX11_turnsOf_194 : decode cX11_turnsOf 194 = .ok (.iconst 1, 1) := by decide +kernel
theorem dX11_turnsOf_195 : decode cX11_turnsOf 195 = .ok (.iadd, 1) := by decide +kernel
theorem dX11_turnsOf_196 : decode cX11_turnsOf 196 = .ok (.iastore, 1) := by decide +kernel
theorem dX11_turnsOf_197 : decode cX11_turnsOf 197 = .ok (.aload_n 0, 1) := by decide +kernel
theorem dX11_turnsOf_198 : decode cX11_turnsOf 198 = .ok (.getfield 44, 3) := by decide +kernel
theorem dX11_turnsOf_201 : decode cX11_turnsOf 201 = .ok (.iload_n 2, 1) := by decide +kernel
theorem dX11_turnsOf_202 : decode cX11_turnsOf 202 = .ok (.iload 4, 2) := by decide +kernel
theorem dX11_turnsOf_204 : decode cX11_turnsOf 204 = .ok (.iload 5, 2) := by decide +kernel
theorem dX11_turnsOf_206 : decode cX11_turnsOf 206 = .ok (.ixor, 1) := by decide +kernel
theorem dX11_turnsOf_207 : decode cX11_turnsOf 207 = .ok (.iastore, 1) := by decide +kernel
theorem dX11_turnsOf_208 : decode cX11_turnsOf 208 = .ok (.iinc 2 1, 3) := by decide +kernel
theorem dX11_turnsOf_211 : decode cX11_turnsOf 211 = .ok (.iinc 5 1, 3) := by decide +kernel
theorem dX11_turnsOf_214 : decode cX11_turnsOf 214 = .ok (.goto (-158), 3) := by decide +kernel
theorem dX11_turnsOf_217 : decode cX11_turnsOf 217 = .ok (.iinc 3 1, 3) := by decide +kernel
theorem dX11_turnsOf_220 : decode cX11_turnsOf 220 = .ok (.goto (-180), 3) := by decide +kernel
theorem dX11_turnsOf_223 : decode cX11_turnsOf 223 = .ok (.aload_n 0, 1) := by decide +kernel
theorem dX11_turnsOf_224 : decode cX11_turnsOf 224 = .ok (.getfield 41, 3) := by decide +kernel
theorem dX11_turnsOf_227 : decode cX11_turnsOf 227 = .ok (.iload_n 1, 1) := by decide +kernel
theorem dX11_turnsOf_228 : decode cX11_turnsOf 228 = .ok (.iaload, 1) := by decide +kernel
theorem dX11_turnsOf_229 : decode cX11_turnsOf 229 = .ok (.ireturn, 1) := by decide +kernel
set_option maxRecDepth 20000 in
theorem ggX11_turns_X11_isBand : GoodIn wsX11_turns wsX11_isBand := goodIn_r _ [6, 7, 8, 9, 5, 10, 11, 12, 13, 14, 15, 16, 17, 18, 65, 66, 67, 68, 69, 70, 71, 72, 73, 74, 75, 76, 77, 78, 79, 80, 81, 82, 83, 84, 85, 86, 87, 88, 89] (by decide +kernel) (by decide +kernel)
set_option maxRecDepth 20000 in
theorem gX11_turns_X11_isBand : GoodIn wsX11_turns (wsV RX11 250 RX11 yX11_isBand wsX11_isBand) := goodIn_app (goodIn_of _ (by decide +kernel)) ggX11_turns_X11_isBand
set_option maxRecDepth 20000 in
theorem ggX11_turns_X11_bad : GoodIn wsX11_turns wsX11_bad := goodIn_r _ [22, 23, 65, 66, 67, 68, 69, 70, 71, 72, 73, 74, 75, 76, 77, 78, 79, 80, 81, 82, 83, 84, 85, 86, 87, 88, 89] (by decide +kernel) (by decide +kernel)
set_option maxRecDepth 20000 in
theorem gX11_turns_X11_bad : GoodIn wsX11_turns (wsV RX11 73 RX11 yX11_bad wsX11_bad) := goodIn_app (goodIn_of _ (by decide +kernel)) ggX11_turns_X11_bad
set_option maxRecDepth 20000 in
theorem ggX11_turns_X11_carryNothing : GoodIn wsX11_turns wsX11_carryNothing := goodIn_r _ [27, 28, 65, 66, 67, 68, 69, 70, 71, 72, 73, 74, 75, 76, 77, 78, 79, 80, 81, 82, 83, 84, 85, 86, 87, 88, 89] (by decide +kernel) (by decide +kernel)
set_option maxRecDepth 20000 in
theorem gX11_turns_X11_carryNothing : GoodIn wsX11_turns (wsV RX11 128 RX11 yX11_carryNothing wsX11_carryNothing) := goodIn_app (goodIn_of _ (by decide +kernel)) ggX11_turns_X11_carryNothing
set_option maxRecDepth 20000 in
theorem ggX11_turns_X11_turnsOf : GoodIn wsX11_turns wsX11_turnsOf := goodIn_r _ [32, 33, 1, 34, 7, 8, 9, 5, 10, 11, 12, 13, 14, 15, 35, 36, 37, 38, 39, 40, 41, 42, 43, 44, 45, 46, 47, 48, 49, 50, 51, 52, 53, 54, 55, 56, 28, 57, 58, 59, 60, 61, 62, 63, 64, 65, 66, 67, 68, 69, 70, 71, 72, 73, 74, 75, 76, 77, 78, 79, 80, 81, 82, 83, 84, 85, 86, 87, 88, 89] (by decide +kernel) (by decide +kernel)
set_option maxRecDepth 20000 in
theorem gX11_turns_X11_turnsOf : GoodIn wsX11_turns (wsV RX11 264 RX11 yX11_turnsOf wsX11_turnsOf) := goodIn_app (goodIn_of _ (by decide +kernel)) ggX11_turns_X11_turnsOf
theorem dX11_turns_0 : decode cX11_turns 0 = .ok (.aload_n 0, 1) := by decide +kernel
theorem dX11_turns_1 : decode cX11_turns 1 = .ok (.iload_n 1, 1) := by decide +kernel
theorem dX11_turns_2 : decode cX11_turns 2 = .ok (.invokevirtual 250, 3) := by decide +kernel
theorem dX11_turns_5 : decode cX11_turns 5 = .ok (.ifCond .eq 17, 3) := by decide +kernel
theorem dX11_turns_8 : decode cX11_turns 8 = .ok (.aload_n 0, 1) := by decide +kernel
theorem dX11_turns_9 : decode cX11_turns 9 = .ok (.iload_n 2, 1) := by decide +kernel
theorem dX11_turns_10 : decode cX11_turns 10 = .ok (.invokevirtual 250, 3) := by decide +kernel
theorem dX11_turns_13 : decode cX11_turns 13 = .ok (.ifCond .eq 9, 3) := by decide +kernel
theorem dX11_turns_16 : decode cX11_turns 16 = .ok (.iload_n 1, 1) := by decide +kernel
theorem dX11_turns_17 : decode cX11_turns 17 = .ok (.iload_n 2, 1) := by decide +kernel
theorem dX11_turns_18 : decode cX11_turns 18 = .ok (.iand, 1) := by decide +kernel
theorem dX11_turns_19 : decode cX11_turns 19 = .ok (.ifCond .eq 10, 3) := by decide +kernel
theorem dX11_turns_22 : decode cX11_turns 22 = .ok (.aload_n 0, 1) := by decide +kernel
theorem dX11_turns_23 : decode cX11_turns 23 = .ok (.bipush (-2), 2) := by decide +kernel
theorem dX11_turns_25 : decode cX11_turns 25 = .ok (.invokevirtual 73, 3) := by decide +kernel
theorem dX11_turns_28 : decode cX11_turns 28 = .ok (.ireturn, 1) := by decide +kernel
theorem dX11_turns_29 : decode cX11_turns 29 = .ok (.aload_n 0, 1) := by decide +kernel
theorem dX11_turns_30 : decode cX11_turns 30 = .ok (.invokevirtual 128, 3) := by decide +kernel
theorem dX11_turns_33 : decode cX11_turns 33 = .ok (.aload_n 0, 1) := by decide +kernel
theorem dX11_turns_34 : decode cX11_turns 34 = .ok (.iload_n 1, 1) := by decide +kernel
theorem dX11_turns_35 : decode cX11_turns 35 = .ok (.invokevirtual 264, 3) := by decide +kernel
theorem dX11_turns_38 : decode cX11_turns 38 = .ok (.istore_n 3, 1) := by decide +kernel
theorem dX11_turns_39 : decode cX11_turns 39 = .ok (.aload_n 0, 1) := by decide +kernel
theorem dX11_turns_40 : decode cX11_turns 40 = .ok (.iload_n 2, 1) := by decide +kernel
theorem dX11_turns_41 : decode cX11_turns 41 = .ok (.invokevirtual 264, 3) := by decide +kernel
theorem dX11_turns_44 : decode cX11_turns 44 = .ok (.istore 4, 2) := by decide +kernel
theorem dX11_turns_46 : decode cX11_turns 46 = .ok (.iload_n 3, 1) := by decide +kernel
theorem dX11_turns_47 : decode cX11_turns 47 = .ok (.ldc 220, 2) := by decide +kernel
theorem dX11_turns_49 : decode cX11_turns 49 = .ok (.if_icmp .ne 14, 3) := by decide +kernel
theorem dX11_turns_52 : decode cX11_turns 52 = .ok (.iload 4, 2) := by decide +kernel
theorem dX11_turns_54 : decode cX11_turns 54 = .ok (.ldc 220, 2) := by decide +kernel
theorem dX11_turns_56 : decode cX11_turns 56 = .ok (.if_icmp .ne 7, 3) := by decide +kernel
theorem dX11_turns_59 : decode cX11_turns 59 = .ok (.iconst 0, 1) := by decide +kernel
theorem dX11_turns_60 : decode cX11_turns 60 = .ok (.goto 14, 3) := by decide +kernel
theorem dX11_turns_63 : decode cX11_turns 63 = .ok (.iload_n 3, 1) := by decide +kernel
theorem dX11_turns_64 : decode cX11_turns 64 = .ok (.iload 4, 2) := by decide +kernel
theorem dX11_turns_66 : decode cX11_turns 66 = .ok (.if_icmp .gt 7, 3) := by decide +kernel
theorem dX11_turns_69 : decode cX11_turns 69 = .ok (.iconst 1, 1) := by decide +kernel
theorem dX11_turns_70 : decode cX11_turns 70 = .ok (.goto 4, 3) := by decide +kernel
theorem dX11_turns_73 : decode cX11_turns 73 = .ok (.iconst 2, 1) := by decide +kernel
theorem dX11_turns_74 : decode cX11_turns 74 = .ok (.ireturn, 1) := by decide +kernel
set_option maxRecDepth 20000 in
theorem ggX11_load_X11_in : GoodIn wsX11_load wsX11_in := goodIn_r _ [6] (by decide +kernel) (by decide +kernel)
set_option maxRecDepth 20000 in
theorem gX11_load_X11_in : GoodIn wsX11_load (va_wsS RX11 57 yX11_in wsX11_in) := goodIn_app (goodIn_of _ (by decide +kernel)) ggX11_load_X11_in
set_option maxRecDepth 20000 in
theorem ggX11_load_X11_bad : GoodIn wsX11_load wsX11_bad := goodIn_r _ [10, 11, 16, 17, 18, 19, 20, 21, 22, 23, 24, 25, 26, 27, 28, 29, 30, 31, 32, 33, 34, 35, 36, 37, 38, 39, 40] (by decide +kernel) (by decide +kernel)
set_option maxRecDepth 20000 in
theorem gX11_load_X11_bad : GoodIn wsX11_load (wsV RX11 73 RX11 yX11_bad wsX11_bad) := goodIn_app (goodIn_of _ (by decide +kernel)) ggX11_load_X11_bad
set_option maxRecDepth 20000 in
theorem ggX11_load_X11_full : GoodIn wsX11_load wsX11_full := goodIn_r _ [15, 11, 16, 17, 18, 19, 20, 21, 22, 23, 24, 25, 26, 27, 28, 29, 30, 31, 32, 33, 34, 35, 36, 37, 38, 39, 40] (by decide +kernel) (by decide +kernel)
set_option maxRecDepth 20000 in
theorem gX11_load_X11_full : GoodIn wsX11_load (wsV RX11 77 RX11 yX11_full wsX11_full) := goodIn_app (goodIn_of _ (by decide +kernel)) ggX11_load_X11_full
theorem dX11_load_0 : decode cX11_load 0 = .ok (.iload_n 1, 1) := by decide +kernel
theorem dX11_load_1 : decode cX11_load 1 = .ok (.i2l, 1) := by decide +kernel
theorem dX11_load_2 : decode cX11_load 2 = .ok (.lconst 1, 1) := by decide +kernel
theorem dX11_load_3 : decode cX11_load 3 = .ok (.ldc2_w 267, 3) := by decide +kernel
theorem dX11_load_6 : decode cX11_load 6 = .ok (.invokestatic 57, 3) := by decide +kernel
theorem dX11_load_9 : decode cX11_load 9 = .ok (.ifCond .ne 10, 3) := by decide +kernel
theorem dX11_load_12 : decode cX11_load 12 = .ok (.aload_n 0, 1) := by decide +kernel
theorem dX11_load_13 : decode cX11_load 13 = .ok (.bipush (-2), 2) := by decide +kernel
theorem dX11_load_15 : decode cX11_load 15 = .ok (.invokevirtual 73, 3) := by decide +kernel
theorem dX11_load_18 : decode cX11_load 18 = .ok (.ireturn, 1) := by decide +kernel
theorem dX11_load_19 : decode cX11_load 19 = .ok (.aload_n 0, 1) := by decide +kernel
theorem dX11_load_20 : decode cX11_load 20 = .ok (.getfield 7, 3) := by decide +kernel
theorem dX11_load_23 : decode cX11_load 23 = .ok (.sipush 276, 3) := by decide +kernel
theorem dX11_load_26 : decode cX11_load 26 = .ok (.iaload, 1) := by decide +kernel
theorem dX11_load_27 : decode cX11_load 27 = .ok (.istore_n 2, 1) := by decide +kernel
theorem dX11_load_28 : decode cX11_load 28 = .ok (.iload_n 2, 1) := by decide +kernel
theorem dX11_load_29 : decode cX11_load 29 = .ok (.iconst 5, 1) := by decide +kernel
theorem dX11_load_30 : decode cX11_load 30 = .ok (.if_icmp .ne 8, 3) := by decide +kernel
theorem dX11_load_33 : decode cX11_load 33 = .ok (.aload_n 0, 1) := by decide +kernel
theorem dX11_load_34 : decode cX11_load 34 = .ok (.invokevirtual 77, 3) := by decide +kernel
theorem dX11_load_37 : decode cX11_load 37 = .ok (.ireturn, 1) := by decide +kernel
theorem dX11_load_38 : decode cX11_load 38 = .ok (.aload_n 0, 1) := by decide +kernel
theorem dX11_load_39 : decode cX11_load 39 = .ok (.getfield 7, 3) := by decide +kernel
theorem dX11_load_42 : decode cX11_load 42 = .ok (.bipush 68, 2) := by decide +kernel
theorem dX11_load_44 : decode cX11_load 44 = .ok (.iload_n 2, 1) := by decide +kernel
theorem dX11_load_45 : decode cX11_load 45 = .ok (.iadd, 1) := by decide +kernel
theorem dX11_load_46 : decode cX11_load 46 = .ok (.iload_n 1, 1) := by decide +kernel
theorem dX11_load_47 : decode cX11_load 47 = .ok (.iastore, 1) := by decide +kernel
theorem dX11_load_48 : decode cX11_load 48 = .ok (.aload_n 0, 1) := by decide +kernel
theorem dX11_load_49 : decode cX11_load 49 = .ok (.getfield 7, 3) := by decide +kernel
theorem dX11_load_52 : decode cX11_load 52 = .ok (.sipush 276, 3) := by decide +kernel
theorem dX11_load_55 : decode cX11_load 55 = .ok (.dup2, 1) := by decide +kernel
theorem dX11_load_56 : decode cX11_load 56 = .ok (.iaload, 1) := by decide +kernel
theorem dX11_load_57 : decode cX11_load 57 = .ok (.iconst 1, 1) := by decide +kernel
theorem dX11_load_58 : decode cX11_load 58 = .ok (.iadd, 1) := by decide +kernel
theorem dX11_load_59 : decode cX11_load 59 = .ok (.iastore, 1) := by decide +kernel
theorem dX11_load_60 : decode cX11_load 60 = .ok (.iload_n 2, 1) := by decide +kernel
theorem dX11_load_61 : decode cX11_load 61 = .ok (.ireturn, 1) := by decide +kernel
theorem dX11_unload_0 : decode cX11_unload 0 = .ok (.aload_n 0, 1) := by decide +kernel
theorem dX11_unload_1 : decode cX11_unload 1 = .ok (.getfield 7, 3) := by decide +kernel
theorem dX11_unload_4 : decode cX11_unload 4 = .ok (.sipush 276, 3) := by decide +kernel
theorem dX11_unload_7 : decode cX11_unload 7 = .ok (.iaload, 1) := by decide +kernel
theorem dX11_unload_8 : decode cX11_unload 8 = .ok (.istore_n 1, 1) := by decide +kernel
theorem dX11_unload_9 : decode cX11_unload 9 = .ok (.aload_n 0, 1) := by decide +kernel
theorem dX11_unload_10 : decode cX11_unload 10 = .ok (.getfield 7, 3) := by decide +kernel
theorem dX11_unload_13 : decode cX11_unload 13 = .ok (.sipush 276, 3) := by decide +kernel
theorem dX11_unload_16 : decode cX11_unload 16 = .ok (.iconst 0, 1) := by decide +kernel
theorem dX11_unload_17 : decode cX11_unload 17 = .ok (.iastore, 1) := by decide +kernel
theorem dX11_unload_18 : decode cX11_unload 18 = .ok (.iload_n 1, 1) := by decide +kernel
theorem dX11_unload_19 : decode cX11_unload 19 = .ok (.ireturn, 1) := by decide +kernel
set_option maxRecDepth 20000 in
theorem ggX11_pairsNow_X11_porters : GoodIn wsX11_pairsNow wsX11_porters := goodIn_r _ [5, 6, 32, 33, 34, 35, 36, 37, 38, 39, 40, 41, 42, 43, 44, 45, 46, 47, 48, 49, 50, 51, 52, 53, 54, 55, 56] (by decide +kernel) (by decide +kernel)
set_option maxRecDepth 20000 in
theorem gX11_pairsNow_X11_porters : GoodIn wsX11_pairsNow (wsV RX11 53 RX11 yX11_porters wsX11_porters) := goodIn_app (goodIn_of _ (by decide +kernel)) ggX11_pairsNow_X11_porters
set_option maxRecDepth 20000 in
theorem ggX11_pairsNow_X11_anyNever : GoodIn wsX11_pairsNow wsX11_anyNever := goodIn_r _ [10, 1, 2, 3, 4, 5, 6, 11, 12, 13, 14, 15, 16, 17, 18, 32, 33, 34, 35, 36, 37, 38, 39, 40, 41, 42, 43, 44, 45, 46, 47, 48, 49, 50, 51, 52, 53, 54, 55, 56] (by decide +kernel) (by decide +kernel)
set_option maxRecDepth 20000 in
theorem gX11_pairsNow_X11_anyNever : GoodIn wsX11_pairsNow (wsV RX11 111 RX11 yX11_anyNever wsX11_anyNever) := goodIn_app (goodIn_of _ (by decide +kernel)) ggX11_pairsNow_X11_anyNever
set_option maxRecDepth 20000 in
theorem ggX11_pairsNow_X11_areUnlike : GoodIn wsX11_pairsNow wsX11_areUnlike := goodIn_r _ [22, 23, 24, 25, 26, 4, 27, 15, 16, 17, 18, 6, 28, 29, 30, 31, 32, 33, 34, 35, 36, 37, 38, 39, 40, 41, 42, 43, 44, 45, 46, 47, 48, 49, 50, 51, 52, 53, 54, 55, 56] (by decide +kernel) (by decide +kernel)
set_option maxRecDepth 20000 in
theorem gX11_pairsNow_X11_areUnlike : GoodIn wsX11_pairsNow (wsV RX11 118 RX11 yX11_areUnlike wsX11_areUnlike) := goodIn_app (goodIn_of _ (by decide +kernel)) ggX11_pairsNow_X11_areUnlike
theorem dX11_pairsNow_0 : decode cX11_pairsNow 0 = .ok (.iconst 0, 1) := by decide +kernel
theorem dX11_pairsNow_1 : decode cX11_pairsNow 1 = .ok (.istore_n 1, 1) := by decide +kernel
theorem dX11_pairsNow_2 : decode cX11_pairsNow 2 = .ok (.iconst 0, 1) := by decide +kernel
theorem dX11_pairsNow_3 : decode cX11_pairsNow 3 = .ok (.istore_n 2, 1) := by decide +kernel
theorem dX11_pairsNow_4 : decode cX11_pairsNow 4 = .ok (.iload_n 2, 1) := by decide +kernel
theorem dX11_pairsNow_5 : decode cX11_pairsNow 5 = .ok (.aload_n 0, 1) := by decide +kernel
theorem dX11_pairsNow_6 : decode cX11_pairsNow 6 = .ok (.invokevirtual 53, 3) := by decide +kernel
theorem dX11_pairsNow_9 : decode cX11_pairsNow 9 = .ok (.if_icmp .ge 60, 3) := by decide +kernel
theorem dX11_pairsNow_12 : decode cX11_pairsNow 12 = .ok (.iload_n 2, 1) := by decide +kernel
theorem dX11_pairsNow_13 : decode cX11_pairsNow 13 = .ok (.iconst 1, 1) := by decide +kernel
theorem dX11_pairsNow_14 : decode cX11_pairsNow 14 = .ok (.iadd, 1) := by decide +kernel
theorem dX11_pairsNow_15 : decode cX11_pairsNow 15 = .ok (.istore_n 3, 1) := by decide +kernel
theorem dX11_pairsNow_16 : decode cX11_pairsNow 16 = .ok (.iload_n 3, 1) := by decide +kernel
theorem dX11_pairsNow_17 : decode cX11_pairsNow 17 = .ok (.aload_n 0, 1) := by decide +kernel
theorem dX11_pairsNow_18 : decode cX11_pairsNow 18 = .ok (.invokevirtual 53, 3) := by decide +kernel
theorem dX11_pairsNow_21 : decode cX11_pairsNow 21 = .ok (.if_icmp .ge 42, 3) := by decide +kernel
theorem dX11_pairsNow_24 : decode cX11_pairsNow 24 = .ok (.iload_n 1, 1) := by decide +kernel
theorem dX11_pairsNow_25 : decode cX11_pairsNow 25 = .ok (.aload_n 0, 1) := by decide +kernel
theorem dX11_pairsNow_26 : decode cX11_pairsNow 26 = .ok (.iconst 1, 1) := by decide +kernel
theorem dX11_pairsNow_27 : decode cX11_pairsNow 27 = .ok (.iload_n 2, 1) := by decide +kernel
theorem dX11_pairsNow_28 : decode cX11_pairsNow 28 = .ok (.ishl, 1) := by decide +kernel
theorem dX11_pairsNow_29 : decode cX11_pairsNow 29 = .ok (.iconst 1, 1) := by decide +kernel
theorem dX11_pairsNow_30 : decode cX11_pairsNow 30 = .ok (.iload_n 3, 1) := by decide +kernel
theorem dX11_pairsNow_31 : decode cX11_pairsNow 31 = .ok (.ishl, 1) := by decide +kernel
theorem dX11_pairsNow_32 : decode cX11_pairsNow 32 = .ok (.ior, 1) := by decide +kernel
theorem dX11_pairsNow_33 : decode cX11_pairsNow 33 = .ok (.iconst 0, 1) := by decide +kernel
theorem dX11_pairsNow_34 : decode cX11_pairsNow 34 = .ok (.invokevirtual 111, 3) := by decide +kernel
theorem dX11_pairsNow_37 : decode cX11_pairsNow 37 = .ok (.ifCond .ne 17, 3) := by decide +kernel
theorem dX11_pairsNow_40 : decode cX11_pairsNow 40 = .ok (.aload_n 0, 1) := by decide +kernel
theorem dX11_pairsNow_41 : decode cX11_pairsNow 41 = .ok (.iload_n 2, 1) := by decide +kernel
theorem dX11_pairsNow_42 : decode cX11_pairsNow 42 = .ok (.iload_n 3, 1) := by decide +kernel
theorem dX11_pairsNow_43 : decode cX11_pairsNow 43 = .ok (.iconst 0, 1) := by decide +kernel
theorem dX11_pairsNow_44 : decode cX11_pairsNow 44 = .ok (.invokevirtual 118, 3) := by decide +kernel
theorem dX11_pairsNow_47 : decode cX11_pairsNow 47 = .ok (.ifCond .eq 7, 3) := by decide +kernel
theorem dX11_pairsNow_50 : decode cX11_pairsNow 50 = .ok (.iconst 1, 1) := by decide +kernel
theorem dX11_pairsNow_51 : decode cX11_pairsNow 51 = .ok (.goto 4, 3) := by decide +kernel
theorem dX11_pairsNow_54 : decode cX11_pairsNow 54 = .ok (.iconst 0, 1) := by decide +kernel
theorem dX11_pairsNow_55 : decode cX11_pairsNow 55 = .ok (.iadd, 1) := by decide +kernel
theorem dX11_pairsNow_56 : decode cX11_pairsNow 56 = .ok (.istore_n 1, 1) := by decide +kernel
theorem dX11_pairsNow_57 : decode cX11_pairsNow 57 = .ok (.iinc 3 1, 3) := by decide +kernel
theorem dX11_pairsNow_60 : decode cX11_pairsNow 60 = .ok (.goto (-44), 3) := by decide +kernel
theorem dX11_pairsNow_63 : decode cX11_pairsNow 63 = .ok (.iinc 2 1, 3) := by decide +kernel
theorem dX11_pairsNow_66 : decode cX11_pairsNow 66 = .ok (.goto (-62), 3) := by decide +kernel
theorem dX11_pairsNow_69 : decode cX11_pairsNow 69 = .ok (.iload_n 1, 1) := by decide +kernel
theorem dX11_pairsNow_70 : decode cX11_pairsNow 70 = .ok (.ireturn, 1) := by decide +kernel
set_option maxRecDepth 20000 in
theorem ggX11_layCarriers_X11_carryNothing : GoodIn wsX11_layCarriers wsX11_carryNothing := goodIn_r _ [8, 3, 13, 14, 15, 16, 17, 18, 19, 20, 21, 22, 23, 24, 25, 26, 27, 28, 29, 30, 31, 32, 33, 34, 35, 36, 37] (by decide +kernel) (by decide +kernel)
set_option maxRecDepth 20000 in
theorem gX11_layCarriers_X11_carryNothing : GoodIn wsX11_layCarriers (wsV RX11 128 RX11 yX11_carryNothing wsX11_carryNothing) := goodIn_app (goodIn_of _ (by decide +kernel)) ggX11_layCarriers_X11_carryNothing
set_option maxRecDepth 20000 in
theorem ggX11_layCarriers_X11_porters : GoodIn wsX11_layCarriers wsX11_porters := goodIn_r _ [12, 1, 13, 14, 15, 16, 17, 18, 19, 20, 21, 22, 23, 24, 25, 26, 27, 28, 29, 30, 31, 32, 33, 34, 35, 36, 37] (by decide +kernel) (by decide +kernel)
set_option maxRecDepth 20000 in
theorem gX11_layCarriers_X11_porters : GoodIn wsX11_layCarriers (wsV RX11 53 RX11 yX11_porters wsX11_porters) := goodIn_app (goodIn_of _ (by decide +kernel)) ggX11_layCarriers_X11_porters
theorem dX11_layCarriers_0 : decode cX11_layCarriers 0 = .ok (.aload_n 0, 1) := by decide +kernel
theorem dX11_layCarriers_1 : decode cX11_layCarriers 1 = .ok (.invokevirtual 128, 3) := by decide +kernel
theorem dX11_layCarriers_4 : decode cX11_layCarriers 4 = .ok (.iconst 1, 1) := by decide +kernel
theorem dX11_layCarriers_5 : decode cX11_layCarriers 5 = .ok (.istore_n 2, 1) := by decide +kernel
theorem dX11_layCarriers_6 : decode cX11_layCarriers 6 = .ok (.iload_n 1, 1) := by decide +kernel
theorem dX11_layCarriers_7 : decode cX11_layCarriers 7 = .ok (.istore_n 3, 1) := by decide +kernel
theorem dX11_layCarriers_8 : decode cX11_layCarriers 8 = .ok (.aload_n 0, 1) := by decide +kernel
theorem dX11_layCarriers_9 : decode cX11_layCarriers 9 = .ok (.getfield 7, 3) := by decide +kernel
theorem dX11_layCarriers_12 : decode cX11_layCarriers 12 = .ok (.sipush 276, 3) := by decide +kernel
theorem dX11_layCarriers_15 : decode cX11_layCarriers 15 = .ok (.iaload, 1) := by decide +kernel
theorem dX11_layCarriers_16 : decode cX11_layCarriers 16 = .ok (.iconst 1, 1) := by decide +kernel
theorem dX11_layCarriers_17 : decode cX11_layCarriers 17 = .ok (.isub, 1) := by decide +kernel
theorem dX11_layCarriers_18 : decode cX11_layCarriers 18 = .ok (.istore 4, 2) := by decide +kernel
theorem dX11_layCarriers_20 : decode cX11_layCarriers 20 = .ok (.iload 4, 2) := by decide +kernel
theorem dX11_layCarriers_22 : decode cX11_layCarriers 22 = .ok (.ifCond .lt 96, 3) := by decide +kernel
theorem dX11_layCarriers_25 : decode cX11_layCarriers 25 = .ok (.aload_n 0, 1) := by decide +kernel
theorem dX11_layCarriers_26 : decode cX11_layCarriers 26 = .ok (.getfield 47, 3) := by decide +kernel
theorem dX11_layCarriers_29 : decode cX11_layCarriers 29 = .ok (.iload 4, 2) := by decide +kernel
theorem dX11_layCarriers_31 : decode cX11_layCarriers 31 = .ok (.iload_n 3, 1) := by decide +kernel
theorem dX11_layCarriers_32 : decode cX11_layCarriers 32 = .ok (.aload_n 0, 1) := by decide +kernel
theorem dX11_layCarriers_33 : decode cX11_layCarriers 33 = .ok (.invokevirtual 53, 3) := by decide +kernel
theorem dX11_layCarriers_36 : decode cX11_layCarriers 36 = .ok (.iconst 1, 1) := by decide +kernel
theorem dX11_layCarriers_37 : decode cX11_layCarriers 37 = .ok (.iadd, 1) := by decide +kernel
theorem dX11_layCarriers_38 : decode cX11_layCarriers 38 = .ok (.irem, 1) := by decide +kernel
theorem dX11_layCarriers_39 : decode cX11_layCarriers 39 = .ok (.iconst 1, 1) := by decide +kernel
theorem dX11_layCarriers_40 : decode cX11_layCarriers 40 = .ok (.isub, 1) := by decide +kernel
theorem dX11_layCarriers_41 : decode cX11_layCarriers 41 = .ok (.iastore, 1) := by decide +kernel
theorem dX11_layCarriers_42 : decode cX11_layCarriers 42 = .ok (.iload_n 3, 1) := by decide +kernel
theorem dX11_layCarriers_43 : decode cX11_layCarriers 43 = .ok (.aload_n 0, 1) := by decide +kernel
theorem dX11_layCarriers_44 : decode cX11_layCarriers 44 = .ok (.invokevirtual 53, 3) := by decide +kernel
theorem dX11_layCarriers_47 : decode cX11_layCarriers 47 = .ok (.iconst 1, 1) := by decide +kernel
theorem dX11_layCarriers_48 : decode cX11_layCarriers 48 = .ok (.iadd, 1) := by decide +kernel
theorem dX11_layCarriers_49 : decode cX11_layCarriers 49 = .ok (.idiv, 1) := by decide +kernel
theorem dX11_layCarriers_50 : decode cX11_layCarriers 50 = .ok (.istore_n 3, 1) := by decide +kernel
theorem dX11_layCarriers_51 : decode cX11_layCarriers 51 = .ok (.aload_n 0, 1) := by decide +kernel
theorem dX11_layCarriers_52 : decode cX11_layCarriers 52 = .ok (.getfield 47, 3) := by decide +kernel
theorem dX11_layCarriers_55 : decode cX11_layCarriers 55 = .ok (.iload 4, 2) := by decide +kernel
theorem dX11_layCarriers_57 : decode cX11_layCarriers 57 = .ok (.iaload, 1) := by decide +kernel
theorem dX11_layCarriers_58 : decode cX11_layCarriers 58 = .ok (.iconst (-1), 1) := by decide +kernel
theorem dX11_layCarriers_59 : decode cX11_layCarriers 59 = .ok (.if_icmp .eq 53, 3) := by decide +kernel
theorem dX11_layCarriers_62 : decode cX11_layCarriers 62 = .ok (.iload_n 2, 1) := by decide +kernel
theorem dX11_layCarriers_63 : decode cX11_layCarriers 63 = .ok (.ifCond .eq 22, 3) := by decide +kernel
theorem dX11_layCarriers_66 : decode cX11_layCarriers 66 = .ok (.aload_n 0, 1) := by decide +kernel
theorem dX11_layCarriers_67 : decode cX11_layCarriers 67 = .ok (.getfield 23, 3) := by decide +kernel
theorem dX11_layCarriers_70 : decode cX11_layCarriers 70 = .ok (.aload_n 0, 1) := by decide +kernel
theorem dX11_layCarriers_71 : decode cX11_layCarriers 71 = .ok (.getfield 47, 3) := by decide +kernel
theorem dX11_layCarriers_74 : decode cX11_layCarriers 74 = .ok (.iload 4, 2) := by decide +kernel
theorem dX11_layCarriers_76 : decode cX11_layCarriers 76 = .ok (.iaload, 1) := by decide +kernel
theorem dX11_layCarriers_77 : decode cX11_layCarriers 77 = .ok (.iaload, 1) := by decide +kernel
theorem dX11_layCarriers_78 : decode cX11_layCarriers 78 = .ok (.ifCond .ne 7, 3) := by decide +kernel
theorem dX11_layCarriers_81 : decode cX11_layCarriers 81 = .ok (.iconst 1, 1) := by decide +kernel
theorem dX11_layCarriers_82 : decode cX11_layCarriers 82 = .ok (.goto 4, 3) := by decide +kernel
theorem dX11_layCarriers_85 : decode cX11_layCarriers 85 = .ok (.iconst 0, 1) := by decide +kernel
theorem dX11_layCarriers_86 : decode cX11_layCarriers 86 = .ok (.istore_n 2, 1) := by decide +kernel
theorem dX11_layCarriers_87 : decode cX11_layCarriers 87 = .ok (.aload_n 0, 1) := by decide +kernel
theorem dX11_layCarriers_88 : decode cX11_layCarriers 88 = .ok (.getfield 23, 3) := by decide +kernel
theorem dX11_layCarriers_91 : decode cX11_layCarriers 91 = .ok (.aload_n 0, 1) := by decide +kernel
theorem dX11_layCarriers_92 : decode cX11_layCarriers 92 = .ok (.getfield 47, 3) := by decide +kernel
theorem dX11_layCarriers_95 : decode cX11_layCarriers 95 = .ok (.iload 4, 2) := by decide +kernel
theorem dX11_layCarriers_97 : decode cX11_layCarriers 97 = .ok (.iaload, 1) := by decide +kernel
theorem dX11_layCarriers_98 : decode cX11_layCarriers 98 = .ok (.dup2, 1) := by decide +kernel
theorem dX11_layCarriers_99 : decode cX11_layCarriers 99 = .ok (.iaload, 1) := by decide +kernel
theorem dX11_layCarriers_100 : decode cX11_layCarriers 100 = .ok (.aload_n 0, 1) := by decide +kernel
theorem dX11_layCarriers_101 : decode cX11_layCarriers 101 = .ok (.getfield 7, 3) := by decide +kernel
theorem dX11_layCarriers_104 : decode cX11_layCarriers 104 = .ok (.bipush 68, 2) := by decide +kernel
theorem dX11_layCarriers_106 : decode cX11_layCarriers 106 = .ok (.iload 4, 2) := by decide +kernel
theorem dX11_layCarriers_108 : decode cX11_layCarriers 108 = .ok (.iadd, 1) := by decide +kernel
theorem dX11_layCarriers_109 : decode cX11_layCarriers 109 = .ok (.iaload, 1) := by decide +kernel
theorem dX11_layCarriers_110 : decode cX11_layCarriers 110 = .ok (.iadd, 1) := by decide +kernel
theorem dX11_layCarriers_111 : decode cX11_layCarriers 111 = .ok (.iastore, 1) := by decide +kernel
theorem dX11_layCarriers_112 : decode cX11_layCarriers 112 = .ok (.iinc 4 (-1), 3) := by decide +kernel
theorem dX11_layCarriers_115 : decode cX11_layCarriers 115 = .ok (.goto (-95), 3) := by decide +kernel
theorem dX11_layCarriers_118 : decode cX11_layCarriers 118 = .ok (.iload_n 2, 1) := by decide +kernel
theorem dX11_layCarriers_119 : decode cX11_layCarriers 119 = .ok (.ireturn, 1) := by decide +kernel
set_option maxRecDepth 20000 in
theorem ggX11_carries_X11_in : GoodIn wsX11_carries wsX11_in := goodIn_r _ [8] (by decide +kernel) (by decide +kernel)
set_option maxRecDepth 20000 in
theorem gX11_carries_X11_in : GoodIn wsX11_carries (va_wsS RX11 57 yX11_in wsX11_in) := goodIn_app (goodIn_of _ (by decide +kernel)) ggX11_carries_X11_in
set_option maxRecDepth 20000 in
theorem ggX11_carries_X11_bad : GoodIn wsX11_carries wsX11_bad := goodIn_r _ [12, 13, 55, 56, 57, 58, 59, 60, 61, 62, 63, 64, 65, 66, 67, 68, 69, 70, 71, 72, 73, 74, 75, 76, 77, 78, 79] (by decide +kernel) (by decide +kernel)
set_option maxRecDepth 20000 in
theorem gX11_carries_X11_bad : GoodIn wsX11_carries (wsV RX11 73 RX11 yX11_bad wsX11_bad) := goodIn_app (goodIn_of _ (by decide +kernel)) ggX11_carries_X11_bad
set_option maxRecDepth 20000 in
theorem ggX11_carries_X11_porters : GoodIn wsX11_carries wsX11_porters := goodIn_r _ [17, 2, 55, 56, 57, 58, 59, 60, 61, 62, 63, 64, 65, 66, 67, 68, 69, 70, 71, 72, 73, 74, 75, 76, 77, 78, 79] (by decide +kernel) (by decide +kernel)
set_option maxRecDepth 20000 in
theorem gX11_carries_X11_porters : GoodIn wsX11_carries (wsV RX11 53 RX11 yX11_porters wsX11_porters) := goodIn_app (goodIn_of _ (by decide +kernel)) ggX11_carries_X11_porters
set_option maxRecDepth 20000 in
theorem ggX11_carries_X11_layCarriers : GoodIn wsX11_carries wsX11_layCarriers := goodIn_r _ [21, 2, 4, 22, 23, 24, 25, 7, 26, 14, 15, 16, 17, 55, 56, 57, 58, 59, 60, 61, 62, 63, 64, 65, 66, 67, 68, 69, 70, 71, 72, 73, 74, 75, 76, 77, 78, 79] (by decide +kernel) (by decide +kernel)
set_option maxRecDepth 20000 in
theorem gX11_carries_X11_layCarriers : GoodIn wsX11_carries (wsV RX11 271 RX11 yX11_layCarriers wsX11_layCarriers) := goodIn_app (goodIn_of _ (by decide +kernel)) ggX11_carries_X11_layCarriers
set_option maxRecDepth 20000 in
theorem ggX11_carries_X11_pairsNow : GoodIn wsX11_carries wsX11_pairsNow := goodIn_r _ [30, 14, 15, 16, 7, 17, 2, 31, 32, 33, 34, 35, 36, 37, 38, 39, 40, 41, 42, 43, 44, 45, 46, 22, 47, 48, 49, 50, 51, 52, 53, 54, 55, 56, 57, 58, 59, 60, 61, 62, 63, 64, 65, 66, 67, 68, 69, 70, 71, 72, 73, 74, 75, 76, 77, 78, 79] (by decide +kernel) (by decide +kernel)
set_option maxRecDepth 20000 in
theorem gX11_carries_X11_pairsNow : GoodIn wsX11_carries (wsV RX11 274 RX11 yX11_pairsNow wsX11_pairsNow) := goodIn_app (goodIn_of _ (by decide +kernel)) ggX11_carries_X11_pairsNow
theorem dX11_carries_0 : decode cX11_carries 0 = .ok (.iload_n 1, 1) := by decide +kernel
theorem dX11_carries_1 : decode cX11_carries 1 = .ok (.i2l, 1) := by decide +kernel
theorem dX11_carries_2 : decode cX11_carries 2 = .ok (.ldc2_w 269, 3) := by decide +kernel
theorem dX11_carries_5 : decode cX11_carries 5 = .ok (.aload_n 0, 1) := by decide +kernel
theorem dX11_carries_6 : decode cX11_carries 6 = .ok (.getfield 7, 3) := by decide +kernel
theorem dX11_carries_9 : decode cX11_carries 9 = .ok (.sipush 276, 3) := by decide +kernel
theorem dX11_carries_12 : decode cX11_carries 12 = .ok (.iaload, 1) := by decide +kernel
theorem dX11_carries_13 : decode cX11_carries 13 = .ok (.iconst 1, 1) := by decide +kernel
theorem dX11_carries_14 : decode cX11_carries 14 = .ok (.isub, 1) := by decide +kernel
theorem dX11_carries_15 : decode cX11_carries 15 = .ok (.i2l, 1) := by decide +kernel
theorem dX11_carries_16 : decode cX11_carries 16 = .ok (.invokestatic 57, 3) := by decide +kernel
theorem dX11_carries_19 : decode cX11_carries 19 = .ok (.ifCond .ne 10, 3) := by decide +kernel
theorem dX11_carries_22 : decode cX11_carries 22 = .ok (.aload_n 0, 1) := by decide +kernel
theorem dX11_carries_23 : decode cX11_carries 23 = .ok (.bipush (-10), 2) := by decide +kernel
theorem dX11_carries_25 : decode cX11_carries 25 = .ok (.invokevirtual 73, 3) := by decide +kernel
theorem dX11_carries_28 : decode cX11_carries 28 = .ok (.ireturn, 1) := by decide +kernel
theorem dX11_carries_29 : decode cX11_carries 29 = .ok (.iconst 1, 1) := by decide +kernel
theorem dX11_carries_30 : decode cX11_carries 30 = .ok (.istore_n 2, 1) := by decide +kernel
theorem dX11_carries_31 : decode cX11_carries 31 = .ok (.iconst 0, 1) := by decide +kernel
theorem dX11_carries_32 : decode cX11_carries 32 = .ok (.istore_n 3, 1) := by decide +kernel
theorem dX11_carries_33 : decode cX11_carries 33 = .ok (.iload_n 3, 1) := by decide +kernel
theorem dX11_carries_34 : decode cX11_carries 34 = .ok (.aload_n 0, 1) := by decide +kernel
theorem dX11_carries_35 : decode cX11_carries 35 = .ok (.getfield 7, 3) := by decide +kernel
theorem dX11_carries_38 : decode cX11_carries 38 = .ok (.sipush 276, 3) := by decide +kernel
theorem dX11_carries_41 : decode cX11_carries 41 = .ok (.iaload, 1) := by decide +kernel
theorem dX11_carries_42 : decode cX11_carries 42 = .ok (.if_icmp .ge 18, 3) := by decide +kernel
theorem dX11_carries_45 : decode cX11_carries 45 = .ok (.iload_n 2, 1) := by decide +kernel
theorem dX11_carries_46 : decode cX11_carries 46 = .ok (.aload_n 0, 1) := by decide +kernel
theorem dX11_carries_47 : decode cX11_carries 47 = .ok (.invokevirtual 53, 3) := by decide +kernel
theorem dX11_carries_50 : decode cX11_carries 50 = .ok (.iconst 1, 1) := by decide +kernel
theorem dX11_carries_51 : decode cX11_carries 51 = .ok (.iadd, 1) := by decide +kernel
theorem dX11_carries_52 : decode cX11_carries 52 = .ok (.imul, 1) := by decide +kernel
theorem dX11_carries_53 : decode cX11_carries 53 = .ok (.istore_n 2, 1) := by decide +kernel
theorem dX11_carries_54 : decode cX11_carries 54 = .ok (.iinc 3 1, 3) := by decide +kernel
theorem dX11_carries_57 : decode cX11_carries 57 = .ok (.goto (-24), 3) := by decide +kernel
theorem dX11_carries_60 : decode cX11_carries 60 = .ok (.iconst (-1), 1) := by decide +kernel
theorem dX11_carries_61 : decode cX11_carries 61 = .ok (.istore_n 3, 1) := by decide +kernel
theorem dX11_carries_62 : decode cX11_carries 62 = .ok (.iconst 0, 1) := by decide +kernel
theorem dX11_carries_63 : decode cX11_carries 63 = .ok (.istore 4, 2) := by decide +kernel
theorem dX11_carries_65 : decode cX11_carries 65 = .ok (.iload 4, 2) := by decide +kernel
theorem dX11_carries_67 : decode cX11_carries 67 = .ok (.iload_n 2, 1) := by decide +kernel
theorem dX11_carries_68 : decode cX11_carries 68 = .ok (.if_icmp .ge 62, 3) := by decide +kernel
theorem dX11_carries_71 : decode cX11_carries 71 = .ok (.aload_n 0, 1) := by decide +kernel
theorem dX11_carries_72 : decode cX11_carries 72 = .ok (.iload 4, 2) := by decide +kernel
theorem dX11_carries_74 : decode cX11_carries 74 = .ok (.invokevirtual 271, 3) := by decide +kernel
theorem dX11_carries_77 : decode cX11_carries 77 = .ok (.ifCond .eq 47, 3) := by decide +kernel
theorem dX11_carries_80 : decode cX11_carries 80 = .ok (.aload_n 0, 1) := by decide +kernel
theorem dX11_carries_81 : decode cX11_carries 81 = .ok (.invokevirtual 274, 3) := by decide +kernel
theorem dX11_carries_84 : decode cX11_carries 84 = .ok (.istore 5, 2) := by decide +kernel
theorem dX11_carries_86 : decode cX11_carries 86 = .ok (.iload 5, 2) := by decide +kernel
theorem dX11_carries_88 : decode cX11_carries 88 = .ok (.iload_n 3, 1) := by decide +kernel
theorem dX11_carries_89 : decode cX11_carries 89 = .ok (.if_icmp .le 35, 3) := by decide +kernel
theorem dX11_carries_92 : decode cX11_carries 92 = .ok (.iload 5, 2) := by decide +kernel
theorem dX11_carries_94 : decode cX11_carries 94 = .ok (.istore_n 3, 1) := by decide +kernel
theorem dX11_carries_95 : decode cX11_carries 95 = .ok (.iconst 0, 1) := by decide +kernel
theorem dX11_carries_96 : decode cX11_carries 96 = .ok (.istore 6, 2) := by decide +kernel
theorem dX11_carries_98 : decode cX11_carries 98 = .ok (.iload 6, 2) := by decide +kernel
theorem dX11_carries_100 : decode cX11_carries 100 = .ok (.iconst 5, 1) := by decide +kernel
theorem dX11_carries_101 : decode cX11_carries 101 = .ok (.if_icmp .ge 23, 3) := by decide +kernel
theorem dX11_carries_104 : decode cX11_carries 104 = .ok (.aload_n 0, 1) := by decide +kernel
theorem dX11_carries_105 : decode cX11_carries 105 = .ok (.getfield 50, 3) := by decide +kernel
theorem dX11_carries_108 : decode cX11_carries 108 = .ok (.iload 6, 2) := by decide +kernel
theorem dX11_carries_110 : decode cX11_carries 110 = .ok (.aload_n 0, 1) := by decide +kernel
theorem dX11_carries_111 : decode cX11_carries 111 = .ok (.getfield 47, 3) := by decide +kernel
theorem dX11_carries_114 : decode cX11_carries 114 = .ok (.iload 6, 2) := by decide +kernel
theorem dX11_carries_116 : decode cX11_carries 116 = .ok (.iaload, 1) := by decide +kernel
theorem dX11_carries_117 : decode cX11_carries 117 = .ok (.iastore, 1) := by decide +kernel
theorem dX11_carries_118 : decode cX11_carries 118 = .ok (.iinc 6 1, 3) := by decide +kernel
theorem dX11_carries_121 : decode cX11_carries 121 = .ok (.goto (-23), 3) := by decide +kernel
theorem dX11_carries_124 : decode cX11_carries 124 = .ok (.iinc 4 1, 3) := by decide +kernel
theorem dX11_carries_127 : decode cX11_carries 127 = .ok (.goto (-62), 3) := by decide +kernel
theorem dX11_carries_130 : decode cX11_carries 130 = .ok (.iload_n 1, 1) := by decide +kernel
theorem dX11_carries_131 : decode cX11_carries 131 = .ok (.iconst (-1), 1) := by decide +kernel
theorem dX11_carries_132 : decode cX11_carries 132 = .ok (.if_icmp .ne 7, 3) := by decide +kernel
theorem dX11_carries_135 : decode cX11_carries 135 = .ok (.iload_n 3, 1) := by decide +kernel
theorem dX11_carries_136 : decode cX11_carries 136 = .ok (.goto 9, 3) := by decide +kernel
theorem dX11_carries_139 : decode cX11_carries 139 = .ok (.aload_n 0, 1) := by decide +kernel
theorem dX11_carries_140 : decode cX11_carries 140 = .ok (.getfield 50, 3) := by decide +kernel
theorem dX11_carries_143 : decode cX11_carries 143 = .ok (.iload_n 1, 1) := by decide +kernel
theorem dX11_carries_144 : decode cX11_carries 144 = .ok (.iaload, 1) := by decide +kernel
theorem dX11_carries_145 : decode cX11_carries 145 = .ok (.ireturn, 1) := by decide +kernel
set_option maxRecDepth 20000 in
theorem ggX11_fell_X11_all : GoodIn wsX11_fell wsX11_all := goodIn_r _ [6, 7, 8, 9, 5, 10, 11, 49, 50, 51, 52, 53, 54, 55, 56, 57, 58, 59, 60, 61, 62, 63, 64, 65, 66, 67, 68, 69, 70, 71, 72, 73] (by decide +kernel) (by decide +kernel)
set_option maxRecDepth 20000 in
theorem gX11_fell_X11_all : GoodIn wsX11_fell (wsV RX11 125 RX11 yX11_all wsX11_all) := goodIn_app (goodIn_of _ (by decide +kernel)) ggX11_fell_X11_all
set_option maxRecDepth 20000 in
theorem ggX11_fell_X11_in : GoodIn wsX11_fell wsX11_in := goodIn_r _ [14] (by decide +kernel) (by decide +kernel)
set_option maxRecDepth 20000 in
theorem gX11_fell_X11_in : GoodIn wsX11_fell (va_wsS RX11 57 yX11_in wsX11_in) := goodIn_app (goodIn_of _ (by decide +kernel)) ggX11_fell_X11_in
set_option maxRecDepth 20000 in
theorem ggX11_fell_X11_bad : GoodIn wsX11_fell wsX11_bad := goodIn_r _ [18, 19, 49, 50, 51, 52, 53, 54, 55, 56, 57, 58, 59, 60, 61, 62, 63, 64, 65, 66, 67, 68, 69, 70, 71, 72, 73] (by decide +kernel) (by decide +kernel)
set_option maxRecDepth 20000 in
theorem gX11_fell_X11_bad : GoodIn wsX11_fell (wsV RX11 73 RX11 yX11_bad wsX11_bad) := goodIn_app (goodIn_of _ (by decide +kernel)) ggX11_fell_X11_bad
set_option maxRecDepth 20000 in
theorem ggX11_fell_X11_carryNothing : GoodIn wsX11_fell wsX11_carryNothing := goodIn_r _ [23, 24, 49, 50, 51, 52, 53, 54, 55, 56, 57, 58, 59, 60, 61, 62, 63, 64, 65, 66, 67, 68, 69, 70, 71, 72, 73] (by decide +kernel) (by decide +kernel)
set_option maxRecDepth 20000 in
theorem gX11_fell_X11_carryNothing : GoodIn wsX11_fell (wsV RX11 128 RX11 yX11_carryNothing wsX11_carryNothing) := goodIn_app (goodIn_of _ (by decide +kernel)) ggX11_fell_X11_carryNothing
set_option maxRecDepth 20000 in
theorem ggX11_fell_X11_porters : GoodIn wsX11_fell wsX11_porters := goodIn_r _ [10, 11, 49, 50, 51, 52, 53, 54, 55, 56, 57, 58, 59, 60, 61, 62, 63, 64, 65, 66, 67, 68, 69, 70, 71, 72, 73] (by decide +kernel) (by decide +kernel)
set_option maxRecDepth 20000 in
theorem gX11_fell_X11_porters : GoodIn wsX11_fell (wsV RX11 53 RX11 yX11_porters wsX11_porters) := goodIn_app (goodIn_of _ (by decide +kernel)) ggX11_fell_X11_porters
set_option maxRecDepth 20000 in
theorem ggX11_fell_X11_anyNever : GoodIn wsX11_fell wsX11_anyNever := goodIn_r _ [28, 7, 8, 9, 5, 10, 11, 29, 30, 31, 32, 33, 34, 35, 36, 49, 50, 51, 52, 53, 54, 55, 56, 57, 58, 59, 60, 61, 62, 63, 64, 65, 66, 67, 68, 69, 70, 71, 72, 73] (by decide +kernel) (by decide +kernel)
set_option maxRecDepth 20000 in
theorem gX11_fell_X11_anyNever : GoodIn wsX11_fell (wsV RX11 111 RX11 yX11_anyNever wsX11_anyNever) := goodIn_app (goodIn_of _ (by decide +kernel)) ggX11_fell_X11_anyNever
set_option maxRecDepth 20000 in
theorem ggX11_fell_X11_areUnlike : GoodIn wsX11_fell wsX11_areUnlike := goodIn_r _ [40, 24, 41, 42, 43, 5, 44, 33, 34, 35, 36, 11, 45, 46, 47, 48, 49, 50, 51, 52, 53, 54, 55, 56, 57, 58, 59, 60, 61, 62, 63, 64, 65, 66, 67, 68, 69, 70, 71, 72, 73] (by decide +kernel) (by decide +kernel)
set_option maxRecDepth 20000 in
theorem gX11_fell_X11_areUnlike : GoodIn wsX11_fell (wsV RX11 118 RX11 yX11_areUnlike wsX11_areUnlike) := goodIn_app (goodIn_of _ (by decide +kernel)) ggX11_fell_X11_areUnlike
theorem dX11_fell_0 : decode cX11_fell 0 = .ok (.iload_n 1, 1) := by decide +kernel
theorem dX11_fell_1 : decode cX11_fell 1 = .ok (.i2l, 1) := by decide +kernel
theorem dX11_fell_2 : decode cX11_fell 2 = .ok (.lconst 0, 1) := by decide +kernel
theorem dX11_fell_3 : decode cX11_fell 3 = .ok (.aload_n 0, 1) := by decide +kernel
theorem dX11_fell_4 : decode cX11_fell 4 = .ok (.invokevirtual 125, 3) := by decide +kernel
theorem dX11_fell_7 : decode cX11_fell 7 = .ok (.i2l, 1) := by decide +kernel
theorem dX11_fell_8 : decode cX11_fell 8 = .ok (.invokestatic 57, 3) := by decide +kernel
theorem dX11_fell_11 : decode cX11_fell 11 = .ok (.ifCond .eq 20, 3) := by decide +kernel
theorem dX11_fell_14 : decode cX11_fell 14 = .ok (.iload_n 2, 1) := by decide +kernel
theorem dX11_fell_15 : decode cX11_fell 15 = .ok (.i2l, 1) := by decide +kernel
theorem dX11_fell_16 : decode cX11_fell 16 = .ok (.lconst 0, 1) := by decide +kernel
theorem dX11_fell_17 : decode cX11_fell 17 = .ok (.ldc2_w 96, 3) := by decide +kernel
theorem dX11_fell_20 : decode cX11_fell 20 = .ok (.invokestatic 57, 3) := by decide +kernel
theorem dX11_fell_23 : decode cX11_fell 23 = .ok (.ifCond .eq 8, 3) := by decide +kernel
theorem dX11_fell_26 : decode cX11_fell 26 = .ok (.iload_n 3, 1) := by decide +kernel
theorem dX11_fell_27 : decode cX11_fell 27 = .ok (.iconst (-1), 1) := by decide +kernel
theorem dX11_fell_28 : decode cX11_fell 28 = .ok (.if_icmp .ge 10, 3) := by decide +kernel
theorem dX11_fell_31 : decode cX11_fell 31 = .ok (.aload_n 0, 1) := by decide +kernel
theorem dX11_fell_32 : decode cX11_fell 32 = .ok (.bipush (-10), 2) := by decide +kernel
theorem dX11_fell_34 : decode cX11_fell 34 = .ok (.invokevirtual 73, 3) := by decide +kernel
theorem dX11_fell_37 : decode cX11_fell 37 = .ok (.ireturn, 1) := by decide +kernel
theorem dX11_fell_38 : decode cX11_fell 38 = .ok (.aload_n 0, 1) := by decide +kernel
theorem dX11_fell_39 : decode cX11_fell 39 = .ok (.invokevirtual 128, 3) := by decide +kernel
theorem dX11_fell_42 : decode cX11_fell 42 = .ok (.iconst 0, 1) := by decide +kernel
theorem dX11_fell_43 : decode cX11_fell 43 = .ok (.istore 4, 2) := by decide +kernel
theorem dX11_fell_45 : decode cX11_fell 45 = .ok (.iconst 0, 1) := by decide +kernel
theorem dX11_fell_46 : decode cX11_fell 46 = .ok (.istore 5, 2) := by decide +kernel
theorem dX11_fell_48 : decode cX11_fell 48 = .ok (.iload 5, 2) := by decide +kernel
theorem dX11_fell_50 : decode cX11_fell 50 = .ok (.aload_n 0, 1) := by decide +kernel
theorem dX11_fell_51 : decode cX11_fell 51 = .ok (.invokevirtual 53, 3) := by decide +kernel
theorem dX11_fell_54 : decode cX11_fell 54 = .ok (.if_icmp .ge 104, 3) := by decide +kernel
theorem dX11_fell_57 : decode cX11_fell 57 = .ok (.iload 5, 2) := by decide +kernel
theorem dX11_fell_59 : decode cX11_fell 59 = .ok (.iconst 1, 1) := by decide +kernel
theorem dX11_fell_60 : decode cX11_fell 60 = .ok (.iadd, 1) := by decide +kernel
theorem dX11_fell_61 : decode cX11_fell 61 = .ok (.istore 6, 2) := by decide +kernel
theorem dX11_fell_63 : decode cX11_fell 63 = .ok (.iload 6, 2) := by decide +kernel
theorem dX11_fell_65 : decode cX11_fell 65 = .ok (.aload_n 0, 1) := by decide +kernel
theorem dX11_fell_66 : decode cX11_fell 66 = .ok (.invokevirtual 53, 3) := by decide +kernel
theorem dX11_fell_69 : decode cX11_fell 69 = .ok (.if_icmp .ge 83, 3) := by decide +kernel
theorem dX11_fell_72 : decode cX11_fell 72 = .ok (.iload_n 1, 1) := by decide +kernel
theorem dX11_fell_73 : decode cX11_fell 73 = .ok (.iload 5, 2) := by decide +kernel
theorem dX11_fell_75 : decode cX11_fell 75 = .ok (.ishr, 1) := by decide +kernel
theorem dX11_fell_76 : decode cX11_fell 76 = .ok (.iconst 1, 1) := by decide +kernel
theorem dX11_fell_77 : decode cX11_fell 77 = .ok (.iand, 1) := by decide +kernel
theorem dX11_fell_78 : decode cX11_fell 78 = .ok (.iload_n 1, 1) := by decide +kernel
theorem dX11_fell_79 : decode cX11_fell 79 = .ok (.iload 6, 2) := by decide +kernel
theorem dX11_fell_81 : decode cX11_fell 81 = .ok (.ishr, 1) := by decide +kernel
theorem dX11_fell_82 : decode cX11_fell 82 = .ok (.iconst 1, 1) := by decide +kernel
theorem dX11_fell_83 : decode cX11_fell 83 = .ok (.iand, 1) := by decide +kernel
theorem dX11_fell_84 : decode cX11_fell 84 = .ok (.if_icmp .ne 7, 3) := by decide +kernel
theorem dX11_fell_87 : decode cX11_fell 87 = .ok (.iconst 1, 1) := by decide +kernel
theorem dX11_fell_88 : decode cX11_fell 88 = .ok (.goto 4, 3) := by decide +kernel
theorem dX11_fell_91 : decode cX11_fell 91 = .ok (.iconst 0, 1) := by decide +kernel
theorem dX11_fell_92 : decode cX11_fell 92 = .ok (.istore 7, 2) := by decide +kernel
theorem dX11_fell_94 : decode cX11_fell 94 = .ok (.iload 7, 2) := by decide +kernel
theorem dX11_fell_96 : decode cX11_fell 96 = .ok (.ifCond .eq 50, 3) := by decide +kernel
theorem dX11_fell_99 : decode cX11_fell 99 = .ok (.aload_n 0, 1) := by decide +kernel
theorem dX11_fell_100 : decode cX11_fell 100 = .ok (.iconst 1, 1) := by decide +kernel
theorem dX11_fell_101 : decode cX11_fell 101 = .ok (.iload 5, 2) := by decide +kernel
theorem dX11_fell_103 : decode cX11_fell 103 = .ok (.ishl, 1) := by decide +kernel
theorem dX11_fell_104 : decode cX11_fell 104 = .ok (.iconst 1, 1) := by decide +kernel
theorem dX11_fell_105 : decode cX11_fell 105 = .ok (.iload 6, 2) := by decide +kernel
theorem dX11_fell_107 : decode cX11_fell 107 = .ok (.ishl, 1) := by decide +kernel
theorem dX11_fell_108 : decode cX11_fell 108 = .ok (.ior, 1) := by decide +kernel
theorem dX11_fell_109 : decode cX11_fell 109 = .ok (.iconst 0, 1) := by decide +kernel
theorem dX11_fell_110 : decode cX11_fell 110 = .ok (.invokevirtual 111, 3) := by decide +kernel
theorem dX11_fell_113 : decode cX11_fell 113 = .ok (.ifCond .ne 33, 3) := by decide +kernel
theorem dX11_fell_116 : decode cX11_fell 116 = .ok (.aload_n 0, 1) := by decide +kernel
theorem dX11_fell_117 : decode cX11_fell 117 = .ok (.iload 5, 2) := by decide +kernel
theorem dX11_fell_119 : decode cX11_fell 119 = .ok (.iload 6, 2) := by decide +kernel
theorem dX11_fell_121 : decode cX11_fell 121 = .ok (.iload_n 2, 1) := by decide +kernel
theorem dX11_fell_122 : decode cX11_fell 122 = .ok (.invokevirtual 118, 3) := by decide +kernel
theorem dX11_fell_125 : decode cX11_fell 125 = .ok (.ifCond .ne 21, 3) := by decide +kernel
theorem dX11_fell_128 : decode cX11_fell 128 = .ok (.iload 4, 2) := by decide +kernel
theorem dX11_fell_130 : decode cX11_fell 130 = .ok (.iload_n 3, 1) := by decide +kernel
theorem dX11_fell_131 : decode cX11_fell 131 = .ok (.if_icmp .ne 12, 3) := by decide +kernel
theorem dX11_fell_134 : decode cX11_fell 134 = .ok (.bipush 10, 2) := by decide +kernel
theorem dX11_fell_136 : decode cX11_fell 136 = .ok (.iload 5, 2) := by decide +kernel
theorem dX11_fell_138 : decode cX11_fell 138 = .ok (.imul, 1) := by decide +kernel
theorem dX11_fell_139 : decode cX11_fell 139 = .ok (.iload 6, 2) := by decide +kernel
theorem dX11_fell_141 : decode cX11_fell 141 = .ok (.iadd, 1) := by decide +kernel
theorem dX11_fell_142 : decode cX11_fell 142 = .ok (.ireturn, 1) := by decide +kernel
theorem dX11_fell_143 : decode cX11_fell 143 = .ok (.iinc 4 1, 3) := by decide +kernel
theorem dX11_fell_146 : decode cX11_fell 146 = .ok (.iinc 6 1, 3) := by decide +kernel
theorem dX11_fell_149 : decode cX11_fell 149 = .ok (.goto (-86), 3) := by decide +kernel
theorem dX11_fell_152 : decode cX11_fell 152 = .ok (.iinc 5 1, 3) := by decide +kernel
theorem dX11_fell_155 : decode cX11_fell 155 = .ok (.goto (-107), 3) := by decide +kernel
theorem dX11_fell_158 : decode cX11_fell 158 = .ok (.iload_n 3, 1) := by decide +kernel
theorem dX11_fell_159 : decode cX11_fell 159 = .ok (.iconst (-1), 1) := by decide +kernel
theorem dX11_fell_160 : decode cX11_fell 160 = .ok (.if_icmp .ne 8, 3) := by decide +kernel
theorem dX11_fell_163 : decode cX11_fell 163 = .ok (.iload 4, 2) := by decide +kernel
theorem dX11_fell_165 : decode cX11_fell 165 = .ok (.goto 5, 3) := by decide +kernel
theorem dX11_fell_168 : decode cX11_fell 168 = .ok (.bipush (-5), 2) := by decide +kernel
theorem dX11_fell_170 : decode cX11_fell 170 = .ok (.ireturn, 1) := by decide +kernel
set_option maxRecDepth 20000 in
theorem ggX11_ropes_X11_in : GoodIn wsX11_ropes wsX11_in := goodIn_r _ [6] (by decide +kernel) (by decide +kernel)
set_option maxRecDepth 20000 in
theorem gX11_ropes_X11_in : GoodIn wsX11_ropes (va_wsS RX11 57 yX11_in wsX11_in) := goodIn_app (goodIn_of _ (by decide +kernel)) ggX11_ropes_X11_in
set_option maxRecDepth 20000 in
theorem ggX11_ropes_X11_bad : GoodIn wsX11_ropes wsX11_bad := goodIn_r _ [10, 11, 28, 29, 30, 31, 32, 33, 34, 35, 36, 37, 38, 39, 40, 41, 42, 43, 44, 45, 46, 47, 48, 49, 50, 51, 52] (by decide +kernel) (by decide +kernel)
set_option maxRecDepth 20000 in
theorem gX11_ropes_X11_bad : GoodIn wsX11_ropes (wsV RX11 73 RX11 yX11_bad wsX11_bad) := goodIn_app (goodIn_of _ (by decide +kernel)) ggX11_ropes_X11_bad
set_option maxRecDepth 20000 in
theorem ggX11_ropes_X11_porters : GoodIn wsX11_ropes wsX11_porters := goodIn_r _ [15, 2, 28, 29, 30, 31, 32, 33, 34, 35, 36, 37, 38, 39, 40, 41, 42, 43, 44, 45, 46, 47, 48, 49, 50, 51, 52] (by decide +kernel) (by decide +kernel)
set_option maxRecDepth 20000 in
theorem gX11_ropes_X11_porters : GoodIn wsX11_ropes (wsV RX11 53 RX11 yX11_porters wsX11_porters) := goodIn_app (goodIn_of _ (by decide +kernel)) ggX11_ropes_X11_porters
set_option maxRecDepth 20000 in
theorem ggX11_ropes_X11_weightOf : GoodIn wsX11_ropes wsX11_weightOf := goodIn_r _ [19, 20, 21, 22, 5, 23, 2, 24, 25, 26, 27, 28, 29, 30, 31, 32, 33, 34, 35, 36, 37, 38, 39, 40, 41, 42, 43, 44, 45, 46, 47, 48, 49, 50, 51, 52] (by decide +kernel) (by decide +kernel)
set_option maxRecDepth 20000 in
theorem gX11_ropes_X11_weightOf : GoodIn wsX11_ropes (wsV RX11 98 RX11 yX11_weightOf wsX11_weightOf) := goodIn_app (goodIn_of _ (by decide +kernel)) ggX11_ropes_X11_weightOf
theorem dX11_ropes_0 : decode cX11_ropes 0 = .ok (.iload_n 1, 1) := by decide +kernel
theorem dX11_ropes_1 : decode cX11_ropes 1 = .ok (.i2l, 1) := by decide +kernel
theorem dX11_ropes_2 : decode cX11_ropes 2 = .ok (.lconst 1, 1) := by decide +kernel
theorem dX11_ropes_3 : decode cX11_ropes 3 = .ok (.ldc2_w 277, 3) := by decide +kernel
theorem dX11_ropes_6 : decode cX11_ropes 6 = .ok (.invokestatic 57, 3) := by decide +kernel
theorem dX11_ropes_9 : decode cX11_ropes 9 = .ok (.ifCond .ne 10, 3) := by decide +kernel
theorem dX11_ropes_12 : decode cX11_ropes 12 = .ok (.aload_n 0, 1) := by decide +kernel
theorem dX11_ropes_13 : decode cX11_ropes 13 = .ok (.bipush (-2), 2) := by decide +kernel
theorem dX11_ropes_15 : decode cX11_ropes 15 = .ok (.invokevirtual 73, 3) := by decide +kernel
theorem dX11_ropes_18 : decode cX11_ropes 18 = .ok (.ireturn, 1) := by decide +kernel
theorem dX11_ropes_19 : decode cX11_ropes 19 = .ok (.iconst 0, 1) := by decide +kernel
theorem dX11_ropes_20 : decode cX11_ropes 20 = .ok (.istore_n 2, 1) := by decide +kernel
theorem dX11_ropes_21 : decode cX11_ropes 21 = .ok (.iconst 0, 1) := by decide +kernel
theorem dX11_ropes_22 : decode cX11_ropes 22 = .ok (.istore_n 3, 1) := by decide +kernel
theorem dX11_ropes_23 : decode cX11_ropes 23 = .ok (.iload_n 3, 1) := by decide +kernel
theorem dX11_ropes_24 : decode cX11_ropes 24 = .ok (.bipush 99, 2) := by decide +kernel
theorem dX11_ropes_26 : decode cX11_ropes 26 = .ok (.if_icmp .ge 110, 3) := by decide +kernel
theorem dX11_ropes_29 : decode cX11_ropes 29 = .ok (.iconst 0, 1) := by decide +kernel
theorem dX11_ropes_30 : decode cX11_ropes 30 = .ok (.istore 4, 2) := by decide +kernel
theorem dX11_ropes_32 : decode cX11_ropes 32 = .ok (.iload 4, 2) := by decide +kernel
theorem dX11_ropes_34 : decode cX11_ropes 34 = .ok (.aload_n 0, 1) := by decide +kernel
theorem dX11_ropes_35 : decode cX11_ropes 35 = .ok (.getfield 7, 3) := by decide +kernel
theorem dX11_ropes_38 : decode cX11_ropes 38 = .ok (.sipush 275, 3) := by decide +kernel
theorem dX11_ropes_41 : decode cX11_ropes 41 = .ok (.iaload, 1) := by decide +kernel
theorem dX11_ropes_42 : decode cX11_ropes 42 = .ok (.if_icmp .ge 88, 3) := by decide +kernel
theorem dX11_ropes_45 : decode cX11_ropes 45 = .ok (.iconst 0, 1) := by decide +kernel
theorem dX11_ropes_46 : decode cX11_ropes 46 = .ok (.istore 5, 2) := by decide +kernel
theorem dX11_ropes_48 : decode cX11_ropes 48 = .ok (.iload 5, 2) := by decide +kernel
theorem dX11_ropes_50 : decode cX11_ropes 50 = .ok (.aload_n 0, 1) := by decide +kernel
theorem dX11_ropes_51 : decode cX11_ropes 51 = .ok (.invokevirtual 53, 3) := by decide +kernel
theorem dX11_ropes_54 : decode cX11_ropes 54 = .ok (.if_icmp .ge 57, 3) := by decide +kernel
theorem dX11_ropes_57 : decode cX11_ropes 57 = .ok (.iload_n 2, 1) := by decide +kernel
theorem dX11_ropes_58 : decode cX11_ropes 58 = .ok (.aload_n 0, 1) := by decide +kernel
theorem dX11_ropes_59 : decode cX11_ropes 59 = .ok (.getfield 7, 3) := by decide +kernel
theorem dX11_ropes_62 : decode cX11_ropes 62 = .ok (.bipush 28, 2) := by decide +kernel
theorem dX11_ropes_64 : decode cX11_ropes 64 = .ok (.iconst 2, 1) := by decide +kernel
theorem dX11_ropes_65 : decode cX11_ropes 65 = .ok (.iload 4, 2) := by decide +kernel
theorem dX11_ropes_67 : decode cX11_ropes 67 = .ok (.imul, 1) := by decide +kernel
theorem dX11_ropes_68 : decode cX11_ropes 68 = .ok (.iadd, 1) := by decide +kernel
theorem dX11_ropes_69 : decode cX11_ropes 69 = .ok (.iconst 1, 1) := by decide +kernel
theorem dX11_ropes_70 : decode cX11_ropes 70 = .ok (.iadd, 1) := by decide +kernel
theorem dX11_ropes_71 : decode cX11_ropes 71 = .ok (.iaload, 1) := by decide +kernel
theorem dX11_ropes_72 : decode cX11_ropes 72 = .ok (.iload 5, 2) := by decide +kernel
theorem dX11_ropes_74 : decode cX11_ropes 74 = .ok (.ishr, 1) := by decide +kernel
theorem dX11_ropes_75 : decode cX11_ropes 75 = .ok (.iconst 1, 1) := by decide +kernel
theorem dX11_ropes_76 : decode cX11_ropes 76 = .ok (.iand, 1) := by decide +kernel
theorem dX11_ropes_77 : decode cX11_ropes 77 = .ok (.iconst 1, 1) := by decide +kernel
theorem dX11_ropes_78 : decode cX11_ropes 78 = .ok (.if_icmp .ne 24, 3) := by decide +kernel
theorem dX11_ropes_81 : decode cX11_ropes 81 = .ok (.aload_n 0, 1) := by decide +kernel
theorem dX11_ropes_82 : decode cX11_ropes 82 = .ok (.iload 5, 2) := by decide +kernel
theorem dX11_ropes_84 : decode cX11_ropes 84 = .ok (.aload_n 0, 1) := by decide +kernel
theorem dX11_ropes_85 : decode cX11_ropes 85 = .ok (.getfield 7, 3) := by decide +kernel
theorem dX11_ropes_88 : decode cX11_ropes 88 = .ok (.bipush 28, 2) := by decide +kernel
theorem dX11_ropes_90 : decode cX11_ropes 90 = .ok (.iconst 2, 1) := by decide +kernel
theorem dX11_ropes_91 : decode cX11_ropes 91 = .ok (.iload 4, 2) := by decide +kernel
theorem dX11_ropes_93 : decode cX11_ropes 93 = .ok (.imul, 1) := by decide +kernel
theorem dX11_ropes_94 : decode cX11_ropes 94 = .ok (.iadd, 1) := by decide +kernel
theorem dX11_ropes_95 : decode cX11_ropes 95 = .ok (.iaload, 1) := by decide +kernel
theorem dX11_ropes_96 : decode cX11_ropes 96 = .ok (.invokevirtual 98, 3) := by decide +kernel
theorem dX11_ropes_99 : decode cX11_ropes 99 = .ok (.goto 4, 3) := by decide +kernel
theorem dX11_ropes_102 : decode cX11_ropes 102 = .ok (.iconst 0, 1) := by decide +kernel
theorem dX11_ropes_103 : decode cX11_ropes 103 = .ok (.iadd, 1) := by decide +kernel
theorem dX11_ropes_104 : decode cX11_ropes 104 = .ok (.istore_n 2, 1) := by decide +kernel
theorem dX11_ropes_105 : decode cX11_ropes 105 = .ok (.iinc 5 1, 3) := by decide +kernel
theorem dX11_ropes_108 : decode cX11_ropes 108 = .ok (.goto (-60), 3) := by decide +kernel
theorem dX11_ropes_111 : decode cX11_ropes 111 = .ok (.iload_n 2, 1) := by decide +kernel
theorem dX11_ropes_112 : decode cX11_ropes 112 = .ok (.iload_n 1, 1) := by decide +kernel
theorem dX11_ropes_113 : decode cX11_ropes 113 = .ok (.if_icmp .le 11, 3) := by decide +kernel
theorem dX11_ropes_116 : decode cX11_ropes 116 = .ok (.bipush 100, 2) := by decide +kernel
theorem dX11_ropes_118 : decode cX11_ropes 118 = .ok (.iload_n 3, 1) := by decide +kernel
theorem dX11_ropes_119 : decode cX11_ropes 119 = .ok (.imul, 1) := by decide +kernel
theorem dX11_ropes_120 : decode cX11_ropes 120 = .ok (.iload 4, 2) := by decide +kernel
theorem dX11_ropes_122 : decode cX11_ropes 122 = .ok (.iadd, 1) := by decide +kernel
theorem dX11_ropes_123 : decode cX11_ropes 123 = .ok (.ireturn, 1) := by decide +kernel
theorem dX11_ropes_124 : decode cX11_ropes 124 = .ok (.iinc 4 1, 3) := by decide +kernel
theorem dX11_ropes_127 : decode cX11_ropes 127 = .ok (.goto (-95), 3) := by decide +kernel
theorem dX11_ropes_130 : decode cX11_ropes 130 = .ok (.iinc 3 1, 3) := by decide +kernel
theorem dX11_ropes_133 : decode cX11_ropes 133 = .ok (.goto (-110), 3) := by decide +kernel
theorem dX11_ropes_136 : decode cX11_ropes 136 = .ok (.iconst (-1), 1) := by decide +kernel
theorem dX11_ropes_137 : decode cX11_ropes 137 = .ok (.ireturn, 1) := by decide +kernel
set_option maxRecDepth 20000 in
theorem ggX11_image_X11_in : GoodIn wsX11_image wsX11_in := goodIn_r _ [7] (by decide +kernel) (by decide +kernel)
set_option maxRecDepth 20000 in
theorem gX11_image_X11_in : GoodIn wsX11_image (va_wsS RX11 57 yX11_in wsX11_in) := goodIn_app (goodIn_of _ (by decide +kernel)) ggX11_image_X11_in
set_option maxRecDepth 20000 in
theorem ggX11_image_X11_bad : GoodIn wsX11_image wsX11_bad := goodIn_r _ [11, 12, 13, 14, 15, 16, 17, 18, 19, 20, 21, 22, 23, 24, 25, 26, 27, 28, 29, 30, 31, 32, 33, 34, 35, 36, 37] (by decide +kernel) (by decide +kernel)
set_option maxRecDepth 20000 in
theorem gX11_image_X11_bad : GoodIn wsX11_image (wsV RX11 73 RX11 yX11_bad wsX11_bad) := goodIn_app (goodIn_of _ (by decide +kernel)) ggX11_image_X11_bad
theorem dX11_image_0 : decode cX11_image 0 = .ok (.iload_n 1, 1) := by decide +kernel
theorem dX11_image_1 : decode cX11_image 1 = .ok (.i2l, 1) := by decide +kernel
theorem dX11_image_2 : decode cX11_image 2 = .ok (.lconst 0, 1) := by decide +kernel
theorem dX11_image_3 : decode cX11_image 3 = .ok (.lconst 1, 1) := by decide +kernel
theorem dX11_image_4 : decode cX11_image 4 = .ok (.invokestatic 57, 3) := by decide +kernel
theorem dX11_image_7 : decode cX11_image 7 = .ok (.ifCond .ne 10, 3) := by decide +kernel
theorem dX11_image_10 : decode cX11_image 10 = .ok (.aload_n 0, 1) := by decide +kernel
theorem dX11_image_11 : decode cX11_image 11 = .ok (.bipush (-2), 2) := by decide +kernel
theorem dX11_image_13 : decode cX11_image 13 = .ok (.invokevirtual 73, 3) := by decide +kernel
theorem dX11_image_16 : decode cX11_image 16 = .ok (.ireturn, 1) := by decide +kernel
theorem dX11_image_17 : decode cX11_image 17 = .ok (.iconst 0, 1) := by decide +kernel
theorem dX11_image_18 : decode cX11_image 18 = .ok (.istore_n 2, 1) := by decide +kernel
theorem dX11_image_19 : decode cX11_image 19 = .ok (.iload_n 2, 1) := by decide +kernel
theorem dX11_image_20 : decode cX11_image 20 = .ok (.sipush 277, 3) := by decide +kernel
theorem dX11_image_23 : decode cX11_image 23 = .ok (.if_icmp .ge 27, 3) := by decide +kernel
theorem dX11_image_26 : decode cX11_image 26 = .ok (.aload_n 0, 1) := by decide +kernel
theorem dX11_image_27 : decode cX11_image 27 = .ok (.getfield 13, 3) := by decide +kernel
theorem dX11_image_30 : decode cX11_image 30 = .ok (.sipush 277, 3) := by decide +kernel
theorem dX11_image_33 : decode cX11_image 33 = .ok (.iload_n 1, 1) := by decide +kernel
theorem dX11_image_34 : decode cX11_image 34 = .ok (.imul, 1) := by decide +kernel
theorem dX11_image_35 : decode cX11_image 35 = .ok (.iload_n 2, 1) := by decide +kernel
theorem dX11_image_36 : decode cX11_image 36 = .ok (.iadd, 1) := by decide +kernel
theorem dX11_image_37 : decode cX11_image 37 = .ok (.aload_n 0, 1) := by decide +kernel
theorem dX11_image_38 : decode cX11_image 38 = .ok (.getfield 7, 3) := by decide +kernel
theorem dX11_image_41 : decode cX11_image 41 = .ok (.iload_n 2, 1) := by decide +kernel
theorem dX11_image_42 : decode cX11_image 42 = .ok (.iaload, 1) := by decide +kernel
theorem dX11_image_43 : decode cX11_image 43 = .ok (.iastore, 1) := by decide +kernel
theorem dX11_image_44 : decode cX11_image 44 = .ok (.iinc 2 1, 3) := by decide +kernel
theorem dX11_image_47 : decode cX11_image 47 = .ok (.goto (-28), 3) := by decide +kernel
theorem dX11_image_50 : decode cX11_image 50 = .ok (.aload_n 0, 1) := by decide +kernel
theorem dX11_image_51 : decode cX11_image 51 = .ok (.getfield 16, 3) := by decide +kernel
theorem dX11_image_54 : decode cX11_image 54 = .ok (.iload_n 1, 1) := by decide +kernel
theorem dX11_image_55 : decode cX11_image 55 = .ok (.iconst 1, 1) := by decide +kernel
theorem dX11_image_56 : decode cX11_image 56 = .ok (.bastore, 1) := by decide +kernel
theorem dX11_image_57 : decode cX11_image 57 = .ok (.iconst 1, 1) := by decide +kernel
theorem dX11_image_58 : decode cX11_image 58 = .ok (.ireturn, 1) := by decide +kernel
set_option maxRecDepth 20000 in
theorem ggX11_from_X11_in : GoodIn wsX11_from wsX11_in := goodIn_r _ [7] (by decide +kernel) (by decide +kernel)
set_option maxRecDepth 20000 in
theorem gX11_from_X11_in : GoodIn wsX11_from (va_wsS RX11 57 yX11_in wsX11_in) := goodIn_app (goodIn_of _ (by decide +kernel)) ggX11_from_X11_in
set_option maxRecDepth 20000 in
theorem ggX11_from_X11_bad : GoodIn wsX11_from wsX11_bad := goodIn_r _ [11, 12, 17, 18, 19, 20, 21, 22, 23, 24, 25, 26, 27, 28, 29, 30, 31, 32, 33, 34, 35, 36, 37, 38, 39, 40, 41] (by decide +kernel) (by decide +kernel)
set_option maxRecDepth 20000 in
theorem gX11_from_X11_bad : GoodIn wsX11_from (wsV RX11 73 RX11 yX11_bad wsX11_bad) := goodIn_app (goodIn_of _ (by decide +kernel)) ggX11_from_X11_bad
set_option maxRecDepth 20000 in
theorem ggX11_from_X11_no : GoodIn wsX11_from wsX11_no := goodIn_r _ [16, 12, 17, 18, 19, 20, 21, 22, 23, 24, 25, 26, 27, 28, 29, 30, 31, 32, 33, 34, 35, 36, 37, 38, 39, 40, 41] (by decide +kernel) (by decide +kernel)
set_option maxRecDepth 20000 in
theorem gX11_from_X11_no : GoodIn wsX11_from (wsV RX11 261 RX11 yX11_no wsX11_no) := goodIn_app (goodIn_of _ (by decide +kernel)) ggX11_from_X11_no
theorem dX11_from_0 : decode cX11_from 0 = .ok (.iload_n 1, 1) := by decide +kernel
theorem dX11_from_1 : decode cX11_from 1 = .ok (.i2l, 1) := by decide +kernel
theorem dX11_from_2 : decode cX11_from 2 = .ok (.lconst 0, 1) := by decide +kernel
theorem dX11_from_3 : decode cX11_from 3 = .ok (.lconst 1, 1) := by decide +kernel
theorem dX11_from_4 : decode cX11_from 4 = .ok (.invokestatic 57, 3) := by decide +kernel
theorem dX11_from_7 : decode cX11_from 7 = .ok (.ifCond .ne 10, 3) := by decide +kernel
theorem dX11_from_10 : decode cX11_from 10 = .ok (.aload_n 0, 1) := by decide +kernel
theorem dX11_from_11 : decode cX11_from 11 = .ok (.bipush (-2), 2) := by decide +kernel
theorem dX11_from_13 : decode cX11_from 13 = .ok (.invokevirtual 73, 3) := by decide +kernel
theorem dX11_from_16 : decode cX11_from 16 = .ok (.ireturn, 1) := by decide +kernel
theorem dX11_from_17 : decode cX11_from 17 = .ok (.aload_n 0, 1) := by decide +kernel
theorem dX11_from_18 : decode cX11_from 18 = .ok (.getfield 16, 3) := by decide +kernel
theorem dX11_from_21 : decode cX11_from 21 = .ok (.iload_n 1, 1) := by decide +kernel
theorem dX11_from_22 : decode cX11_from 22 = .ok (.baload, 1) := by decide +kernel
theorem dX11_from_23 : decode cX11_from 23 = .ok (.ifCond .ne 10, 3) := by decide +kernel
theorem dX11_from_26 : decode cX11_from 26 = .ok (.aload_n 0, 1) := by decide +kernel
theorem dX11_from_27 : decode cX11_from 27 = .ok (.bipush (-3), 2) := by decide +kernel
theorem dX11_from_29 : decode cX11_from 29 = .ok (.invokevirtual 261, 3) := by decide +kernel
theorem dX11_from_32 : decode cX11_from 32 = .ok (.ireturn, 1) := by decide +kernel
theorem dX11_from_33 : decode cX11_from 33 = .ok (.iconst 0, 1) := by decide +kernel
theorem dX11_from_34 : decode cX11_from 34 = .ok (.istore_n 2, 1) := by decide +kernel
theorem dX11_from_35 : decode cX11_from 35 = .ok (.iload_n 2, 1) := by decide +kernel
theorem dX11_from_36 : decode cX11_from 36 = .ok (.sipush 277, 3) := by decide +kernel
theorem dX11_from_39 : decode cX11_from 39 = .ok (.if_icmp .ge 27, 3) := by decide +kernel
theorem dX11_from_42 : decode cX11_from 42 = .ok (.aload_n 0, 1) := by decide +kernel
theorem dX11_from_43 : decode cX11_from 43 = .ok (.getfield 7, 3) := by decide +kernel
theorem dX11_from_46 : decode cX11_from 46 = .ok (.iload_n 2, 1) := by decide +kernel
theorem dX11_from_47 : decode cX11_from 47 = .ok (.aload_n 0, 1) := by decide +kernel
theorem dX11_from_48 : decode cX11_from 48 = .ok (.getfield 13, 3) := by decide +kernel
theorem dX11_from_51 : decode cX11_from 51 = .ok (.sipush 277, 3) := by decide +kernel
theorem dX11_from_54 : decode cX11_from 54 = .ok (.iload_n 1, 1) := by decide +kernel
theorem dX11_from_55 : decode cX11_from 55 = .ok (.imul, 1) := by decide +kernel
theorem dX11_from_56 : decode cX11_from 56 = .ok (.iload_n 2, 1) := by decide +kernel
theorem dX11_from_57 : decode cX11_from 57 = .ok (.iadd, 1) := by decide +kernel
theorem dX11_from_58 : decode cX11_from 58 = .ok (.iaload, 1) := by decide +kernel
theorem dX11_from_59 : decode cX11_from 59 = .ok (.iastore, 1) := by decide +kernel
theorem dX11_from_60 : decode cX11_from 60 = .ok (.iinc 2 1, 3) := by decide +kernel
theorem dX11_from_63 : decode cX11_from 63 = .ok (.goto (-28), 3) := by decide +kernel
theorem dX11_from_66 : decode cX11_from 66 = .ok (.iconst 1, 1) := by decide +kernel
theorem dX11_from_67 : decode cX11_from 67 = .ok (.ireturn, 1) := by decide +kernel
set_option maxRecDepth 20000 in
theorem ggX11_status_X11_in : GoodIn wsX11_status wsX11_in := goodIn_r _ [6] (by decide +kernel) (by decide +kernel)
set_option maxRecDepth 20000 in
theorem gX11_status_X11_in : GoodIn wsX11_status (va_wsS RX11 57 yX11_in wsX11_in) := goodIn_app (goodIn_of _ (by decide +kernel)) ggX11_status_X11_in
set_option maxRecDepth 20000 in
theorem ggX11_status_X11_bad : GoodIn wsX11_status wsX11_bad := goodIn_r _ [10, 2, 11, 12, 13, 14, 15, 16, 17, 18, 19, 20, 21, 22, 23, 24, 25, 26, 27, 28, 29, 30, 31, 32, 33, 34, 35] (by decide +kernel) (by decide +kernel)
set_option maxRecDepth 20000 in
theorem gX11_status_X11_bad : GoodIn wsX11_status (wsV RX11 73 RX11 yX11_bad wsX11_bad) := goodIn_app (goodIn_of _ (by decide +kernel)) ggX11_status_X11_bad
theorem dX11_status_0 : decode cX11_status 0 = .ok (.iload_n 1, 1) := by decide +kernel
theorem dX11_status_1 : decode cX11_status 1 = .ok (.i2l, 1) := by decide +kernel
theorem dX11_status_2 : decode cX11_status 2 = .ok (.lconst 0, 1) := by decide +kernel
theorem dX11_status_3 : decode cX11_status 3 = .ok (.ldc2_w 253, 3) := by decide +kernel
theorem dX11_status_6 : decode cX11_status 6 = .ok (.invokestatic 57, 3) := by decide +kernel
theorem dX11_status_9 : decode cX11_status 9 = .ok (.ifCond .eq 12, 3) := by decide +kernel
theorem dX11_status_12 : decode cX11_status 12 = .ok (.aload_n 0, 1) := by decide +kernel
theorem dX11_status_13 : decode cX11_status 13 = .ok (.getfield 20, 3) := by decide +kernel
theorem dX11_status_16 : decode cX11_status 16 = .ok (.iload_n 1, 1) := by decide +kernel
theorem dX11_status_17 : decode cX11_status 17 = .ok (.iaload, 1) := by decide +kernel
theorem dX11_status_18 : decode cX11_status 18 = .ok (.goto 8, 3) := by decide +kernel
theorem dX11_status_21 : decode cX11_status 21 = .ok (.aload_n 0, 1) := by decide +kernel
theorem dX11_status_22 : decode cX11_status 22 = .ok (.iconst (-1), 1) := by decide +kernel
theorem dX11_status_23 : decode cX11_status 23 = .ok (.invokevirtual 73, 3) := by decide +kernel
theorem dX11_status_26 : decode cX11_status 26 = .ok (.ireturn, 1) := by decide +kernel
set_option maxRecDepth 20000 in
theorem ggX11_counted_X11_textLong : GoodIn wsX11_counted wsX11_textLong := goodIn_r _ [6, 1, 7, 8, 9, 10, 11, 12, 13, 14, 15, 16, 17, 18, 19, 20, 21, 22, 23, 24, 25, 26, 27, 28, 29, 30, 31] (by decide +kernel) (by decide +kernel)
set_option maxRecDepth 20000 in
theorem gX11_counted_X11_textLong : GoodIn wsX11_counted (wsV RX11 136 RX11 yX11_textLong wsX11_textLong) := goodIn_app (goodIn_of _ (by decide +kernel)) ggX11_counted_X11_textLong
theorem dX11_counted_0 : decode cX11_counted 0 = .ok (.iload_n 1, 1) := by decide +kernel
theorem dX11_counted_1 : decode cX11_counted 1 = .ok (.iconst 2, 1) := by decide +kernel
theorem dX11_counted_2 : decode cX11_counted 2 = .ok (.if_icmp .ne 10, 3) := by decide +kernel
theorem dX11_counted_5 : decode cX11_counted 5 = .ok (.aload_n 0, 1) := by decide +kernel
theorem dX11_counted_6 : decode cX11_counted 6 = .ok (.invokevirtual 136, 3) := by decide +kernel
theorem dX11_counted_9 : decode cX11_counted 9 = .ok (.goto 29, 3) := by decide +kernel
theorem dX11_counted_12 : decode cX11_counted 12 = .ok (.iload_n 1, 1) := by decide +kernel
theorem dX11_counted_13 : decode cX11_counted 13 = .ok (.iconst 3, 1) := by decide +kernel
theorem dX11_counted_14 : decode cX11_counted 14 = .ok (.if_icmp .ne 14, 3) := by decide +kernel
theorem dX11_counted_17 : decode cX11_counted 17 = .ok (.aload_n 0, 1) := by decide +kernel
theorem dX11_counted_18 : decode cX11_counted 18 = .ok (.getfield 7, 3) := by decide +kernel
theorem dX11_counted_21 : decode cX11_counted 21 = .ok (.sipush 276, 3) := by decide +kernel
theorem dX11_counted_24 : decode cX11_counted 24 = .ok (.iaload, 1) := by decide +kernel
theorem dX11_counted_25 : decode cX11_counted 25 = .ok (.goto 13, 3) := by decide +kernel
theorem dX11_counted_28 : decode cX11_counted 28 = .ok (.aload_n 0, 1) := by decide +kernel
theorem dX11_counted_29 : decode cX11_counted 29 = .ok (.getfield 7, 3) := by decide +kernel
theorem dX11_counted_32 : decode cX11_counted 32 = .ok (.sipush 274, 3) := by decide +kernel
theorem dX11_counted_35 : decode cX11_counted 35 = .ok (.iload_n 1, 1) := by decide +kernel
theorem dX11_counted_36 : decode cX11_counted 36 = .ok (.iadd, 1) := by decide +kernel
theorem dX11_counted_37 : decode cX11_counted 37 = .ok (.iaload, 1) := by decide +kernel
theorem dX11_counted_38 : decode cX11_counted 38 = .ok (.ireturn, 1) := by decide +kernel
set_option maxRecDepth 20000 in
theorem ggX11_count_X11_in : GoodIn wsX11_count wsX11_in := goodIn_r _ [5] (by decide +kernel) (by decide +kernel)
set_option maxRecDepth 20000 in
theorem gX11_count_X11_in : GoodIn wsX11_count (va_wsS RX11 57 yX11_in wsX11_in) := goodIn_app (goodIn_of _ (by decide +kernel)) ggX11_count_X11_in
set_option maxRecDepth 20000 in
theorem ggX11_count_X11_counted : GoodIn wsX11_count wsX11_counted := goodIn_r _ [9, 10, 11, 12, 13, 4, 14, 20, 21, 22, 23, 24, 25, 26, 27, 28, 29, 30, 31, 32, 33, 34, 35, 36, 37, 38, 39, 40, 41, 42, 43, 44] (by decide +kernel) (by decide +kernel)
set_option maxRecDepth 20000 in
theorem gX11_count_X11_counted : GoodIn wsX11_count (wsV RX11 279 RX11 yX11_counted wsX11_counted) := goodIn_app (goodIn_of _ (by decide +kernel)) ggX11_count_X11_counted
set_option maxRecDepth 20000 in
theorem ggX11_count_X11_bad : GoodIn wsX11_count wsX11_bad := goodIn_r _ [18, 19, 20, 21, 22, 23, 24, 25, 26, 27, 28, 29, 30, 31, 32, 33, 34, 35, 36, 37, 38, 39, 40, 41, 42, 43, 44] (by decide +kernel) (by decide +kernel)
set_option maxRecDepth 20000 in
theorem gX11_count_X11_bad : GoodIn wsX11_count (wsV RX11 73 RX11 yX11_bad wsX11_bad) := goodIn_app (goodIn_of _ (by decide +kernel)) ggX11_count_X11_bad
theorem dX11_count_0 : decode cX11_count 0 = .ok (.iload_n 1, 1) := by decide +kernel
theorem dX11_count_1 : decode cX11_count 1 = .ok (.i2l, 1) := by decide +kernel
theorem dX11_count_2 : decode cX11_count 2 = .ok (.lconst 0, 1) := by decide +kernel
theorem dX11_count_3 : decode cX11_count 3 = .ok (.ldc2_w 80, 3) := by decide +kernel
theorem dX11_count_6 : decode cX11_count 6 = .ok (.invokestatic 57, 3) := by decide +kernel
theorem dX11_count_9 : decode cX11_count 9 = .ok (.ifCond .eq 11, 3) := by decide +kernel
theorem dX11_count_12 : decode cX11_count 12 = .ok (.aload_n 0, 1) := by decide +kernel
theorem dX11_count_13 : decode cX11_count 13 = .ok (.iload_n 1, 1) := by decide +kernel
theorem dX11_count_14 : decode cX11_count 14 = .ok (.invokevirtual 279, 3) := by decide +kernel
theorem dX11_count_17 : decode cX11_count 17 = .ok (.goto 9, 3) := by decide +kernel
theorem dX11_count_20 : decode cX11_count 20 = .ok (.aload_n 0, 1) := by decide +kernel
theorem dX11_count_21 : decode cX11_count 21 = .ok (.bipush (-2), 2) := by decide +kernel
theorem dX11_count_23 : decode cX11_count 23 = .ok (.invokevirtual 73, 3) := by decide +kernel
theorem dX11_count_26 : decode cX11_count 26 = .ok (.ireturn, 1) := by decide +kernel
theorem dX11_sums_0 : decode cX11_sums 0 = .ok (.lload_n 1, 1) := by decide +kernel
theorem dX11_sums_1 : decode cX11_sums 1 = .ok (.lstore 5, 2) := by decide +kernel
theorem dX11_sums_3 : decode cX11_sums 3 = .ok (.iconst 0, 1) := by decide +kernel
theorem dX11_sums_4 : decode cX11_sums 4 = .ok (.istore 7, 2) := by decide +kernel
theorem dX11_sums_6 : decode cX11_sums 6 = .ok (.iload 7, 2) := by decide +kernel
theorem dX11_sums_8 : decode cX11_sums 8 = .ok (.iload 4, 2) := by decide +kernel
theorem dX11_sums_10 : decode cX11_sums 10 = .ok (.if_icmp .ge 28, 3) := by decide +kernel
theorem dX11_sums_13 : decode cX11_sums 13 = .ok (.ldc2_w 282, 3) := by decide +kernel
theorem dX11_sums_16 : decode cX11_sums 16 = .ok (.lload 5, 2) := by decide +kernel
theorem dX11_sums_18 : decode cX11_sums 18 = .ok (.lmul, 1) := by decide +kernel
theorem dX11_sums_19 : decode cX11_sums 19 = .ok (.aload_n 0, 1) := by decide +kernel
theorem dX11_sums_20 : decode cX11_sums 20 = .ok (.getfield 7, 3) := by decide +kernel
theorem dX11_sums_23 : decode cX11_sums 23 = .ok (.iload_n 3, 1) := by decide +kernel
theorem dX11_sums_24 : decode cX11_sums 24 = .ok (.iload 7, 2) := by decide +kernel
theorem dX11_sums_26 : decode cX11_sums 26 = .ok (.iadd, 1) := by decide +kernel
theorem dX11_sums_27 : decode cX11_sums 27 = .ok (.iaload, 1) := by decide +kernel
theorem dX11_sums_28 : decode cX11_sums 28 = .ok (.i2l, 1) := by decide +kernel
theorem dX11_sums_29 : decode cX11_sums 29 = .ok (.ladd, 1) := by decide +kernel
theorem dX11_sums_30 : decode cX11_sums 30 = .ok (.lstore 5, 2) := by decide +kernel
theorem dX11_sums_32 : decode cX11_sums 32 = .ok (.iinc 7 1, 3) := by decide +kernel
theorem dX11_sums_35 : decode cX11_sums 35 = .ok (.goto (-29), 3) := by decide +kernel
theorem dX11_sums_38 : decode cX11_sums 38 = .ok (.lload 5, 2) := by decide +kernel
theorem dX11_sums_40 : decode cX11_sums 40 = .ok (.lreturn, 1) := by decide +kernel
set_option maxRecDepth 20000 in
theorem ggX11_digest_X11_counted : GoodIn wsX11_digest wsX11_counted := goodIn_r _ [8, 3, 9, 10, 11, 7, 12, 21, 22, 23, 24, 25, 26, 27, 28, 29, 30, 31, 32, 33, 34, 35, 36, 37, 38, 39, 40, 41, 42, 43, 44, 45] (by decide +kernel) (by decide +kernel)
set_option maxRecDepth 20000 in
theorem gX11_digest_X11_counted : GoodIn wsX11_digest (wsV RX11 279 RX11 yX11_counted wsX11_counted) := goodIn_app (goodIn_of _ (by decide +kernel)) ggX11_digest_X11_counted
set_option maxRecDepth 20000 in
theorem ggX11_digest_X11_porters : GoodIn wsX11_digest wsX11_porters := goodIn_r _ [16, 3, 21, 22, 23, 24, 25, 26, 27, 28, 29, 30, 31, 32, 33, 34, 35, 36, 37, 38, 39, 40, 41, 42, 43, 44, 45] (by decide +kernel) (by decide +kernel)
set_option maxRecDepth 20000 in
theorem gX11_digest_X11_porters : GoodIn wsX11_digest (wsV RX11 53 RX11 yX11_porters wsX11_porters) := goodIn_app (goodIn_of _ (by decide +kernel)) ggX11_digest_X11_porters
set_option maxRecDepth 20000 in
theorem ggX11_digest_X11_sums : GoodIn wsX11_digest wsX11_sums := goodIn_r _ [20, 2, 3, 21, 22, 23, 24, 25, 26, 27, 28, 29, 30, 31, 32, 33, 34, 35, 36, 37, 38, 39, 40, 41, 42, 43, 44, 45] (by decide +kernel) (by decide +kernel)
set_option maxRecDepth 20000 in
theorem gX11_digest_X11_sums : GoodIn wsX11_digest (wsV RX11 286 RX11 yX11_sums wsX11_sums) := goodIn_app (goodIn_of _ (by decide +kernel)) ggX11_digest_X11_sums
set_option maxRecDepth 20000 in
theorem ggX11_digest_X11_textLong : GoodIn wsX11_digest wsX11_textLong := goodIn_r _ [12, 3, 21, 22, 23, 24, 25, 26, 27, 28, 29, 30, 31, 32, 33, 34, 35, 36, 37, 38, 39, 40, 41, 42, 43, 44, 45] (by decide +kernel) (by decide +kernel)
set_option maxRecDepth 20000 in
theorem gX11_digest_X11_textLong : GoodIn wsX11_digest (wsV RX11 136 RX11 yX11_textLong wsX11_textLong) := goodIn_app (goodIn_of _ (by decide +kernel)) ggX11_digest_X11_textLong
theorem dX11_digest_0 : decode cX11_digest 0 = .ok (.ldc2_w 284, 3) := by decide +kernel
theorem dX11_digest_3 : decode cX11_digest 3 = .ok (.lstore_n 1, 1) := by decide +kernel
theorem dX11_digest_4 : decode cX11_digest 4 = .ok (.iconst 0, 1) := by decide +kernel
theorem dX11_digest_5 : decode cX11_digest 5 = .ok (.istore_n 3, 1) := by decide +kernel
theorem dX11_digest_6 : decode cX11_digest 6 = .ok (.iload_n 3, 1) := by decide +kernel
theorem dX11_digest_7 : decode cX11_digest 7 = .ok (.iconst 4, 1) := by decide +kernel
theorem dX11_digest_8 : decode cX11_digest 8 = .ok (.if_icmp .ge 22, 3) := by decide +kernel
theorem dX11_digest_11 : decode cX11_digest 11 = .ok (.ldc2_w 282, 3) := by decide +kernel
theorem dX11_digest_14 : decode cX11_digest 14 = .ok (.lload_n 1, 1) := by decide +kernel
theorem dX11_digest_15 : decode cX11_digest 15 = .ok (.lmul, 1) := by decide +kernel
theorem dX11_digest_16 : decode cX11_digest 16 = .ok (.aload_n 0, 1) := by decide +kernel
theorem dX11_digest_17 : decode cX11_digest 17 = .ok (.iload_n 3, 1) := by decide +kernel
theorem dX11_digest_18 : decode cX11_digest 18 = .ok (.invokevirtual 279, 3) := by decide +kernel
theorem dX11_digest_21 : decode cX11_digest 21 = .ok (.i2l, 1) := by decide +kernel
theorem dX11_digest_22 : decode cX11_digest 22 = .ok (.ladd, 1) := by decide +kernel
theorem dX11_digest_23 : decode cX11_digest 23 = .ok (.lstore_n 1, 1) := by decide +kernel
theorem dX11_digest_24 : decode cX11_digest 24 = .ok (.iinc 3 1, 3) := by decide +kernel
theorem dX11_digest_27 : decode cX11_digest 27 = .ok (.goto (-21), 3) := by decide +kernel
theorem dX11_digest_30 : decode cX11_digest 30 = .ok (.aload_n 0, 1) := by decide +kernel
theorem dX11_digest_31 : decode cX11_digest 31 = .ok (.lload_n 1, 1) := by decide +kernel
theorem dX11_digest_32 : decode cX11_digest 32 = .ok (.iconst 0, 1) := by decide +kernel
theorem dX11_digest_33 : decode cX11_digest 33 = .ok (.iconst 4, 1) := by decide +kernel
theorem dX11_digest_34 : decode cX11_digest 34 = .ok (.aload_n 0, 1) := by decide +kernel
theorem dX11_digest_35 : decode cX11_digest 35 = .ok (.invokevirtual 53, 3) := by decide +kernel
theorem dX11_digest_38 : decode cX11_digest 38 = .ok (.imul, 1) := by decide +kernel
theorem dX11_digest_39 : decode cX11_digest 39 = .ok (.invokevirtual 286, 3) := by decide +kernel
theorem dX11_digest_42 : decode cX11_digest 42 = .ok (.lstore_n 1, 1) := by decide +kernel
theorem dX11_digest_43 : decode cX11_digest 43 = .ok (.aload_n 0, 1) := by decide +kernel
theorem dX11_digest_44 : decode cX11_digest 44 = .ok (.lload_n 1, 1) := by decide +kernel
theorem dX11_digest_45 : decode cX11_digest 45 = .ok (.bipush 24, 2) := by decide +kernel
theorem dX11_digest_47 : decode cX11_digest 47 = .ok (.iconst 4, 1) := by decide +kernel
theorem dX11_digest_48 : decode cX11_digest 48 = .ok (.invokevirtual 286, 3) := by decide +kernel
theorem dX11_digest_51 : decode cX11_digest 51 = .ok (.lstore_n 1, 1) := by decide +kernel
theorem dX11_digest_52 : decode cX11_digest 52 = .ok (.aload_n 0, 1) := by decide +kernel
theorem dX11_digest_53 : decode cX11_digest 53 = .ok (.lload_n 1, 1) := by decide +kernel
theorem dX11_digest_54 : decode cX11_digest 54 = .ok (.bipush 28, 2) := by decide +kernel
theorem dX11_digest_56 : decode cX11_digest 56 = .ok (.iconst 2, 1) := by decide +kernel
theorem dX11_digest_57 : decode cX11_digest 57 = .ok (.aload_n 0, 1) := by decide +kernel
theorem dX11_digest_58 : decode cX11_digest 58 = .ok (.getfield 7, 3) := by decide +kernel
theorem dX11_digest_61 : decode cX11_digest 61 = .ok (.sipush 275, 3) := by decide +kernel
theorem dX11_digest_64 : decode cX11_digest 64 = .ok (.iaload, 1) := by decide +kernel
theorem dX11_digest_65 : decode cX11_digest 65 = .ok (.imul, 1) := by decide +kernel
theorem dX11_digest_66 : decode cX11_digest 66 = .ok (.invokevirtual 286, 3) := by decide +kernel
theorem dX11_digest_69 : decode cX11_digest 69 = .ok (.lstore_n 1, 1) := by decide +kernel
theorem dX11_digest_70 : decode cX11_digest 70 = .ok (.aload_n 0, 1) := by decide +kernel
theorem dX11_digest_71 : decode cX11_digest 71 = .ok (.lload_n 1, 1) := by decide +kernel
theorem dX11_digest_72 : decode cX11_digest 72 = .ok (.bipush 74, 2) := by decide +kernel
theorem dX11_digest_74 : decode cX11_digest 74 = .ok (.aload_n 0, 1) := by decide +kernel
theorem dX11_digest_75 : decode cX11_digest 75 = .ok (.invokevirtual 136, 3) := by decide +kernel
theorem dX11_digest_78 : decode cX11_digest 78 = .ok (.invokevirtual 286, 3) := by decide +kernel
theorem dX11_digest_81 : decode cX11_digest 81 = .ok (.lstore_n 1, 1) := by decide +kernel
theorem dX11_digest_82 : decode cX11_digest 82 = .ok (.aload_n 0, 1) := by decide +kernel
theorem dX11_digest_83 : decode cX11_digest 83 = .ok (.lload_n 1, 1) := by decide +kernel
theorem dX11_digest_84 : decode cX11_digest 84 = .ok (.bipush 68, 2) := by decide +kernel
theorem dX11_digest_86 : decode cX11_digest 86 = .ok (.aload_n 0, 1) := by decide +kernel
theorem dX11_digest_87 : decode cX11_digest 87 = .ok (.getfield 7, 3) := by decide +kernel
theorem dX11_digest_90 : decode cX11_digest 90 = .ok (.sipush 276, 3) := by decide +kernel
theorem dX11_digest_93 : decode cX11_digest 93 = .ok (.iaload, 1) := by decide +kernel
theorem dX11_digest_94 : decode cX11_digest 94 = .ok (.invokevirtual 286, 3) := by decide +kernel
theorem dX11_digest_97 : decode cX11_digest 97 = .ok (.lreturn, 1) := by decide +kernel
