theorem dX9_init_0 : decode cX9_init 0 = .ok (.aload_n 0, 1) := by decide +kernel
theorem dX9_init_1 : decode cX9_init 1 = .ok (.invokespecial 1, 3) := by decide +kernel
theorem dX9_init_4 : decode cX9_init 4 = .ok (.aload_n 0, 1) := by decide +kernel
theorem dX9_init_5 : decode cX9_init 5 = .ok (.bipush 27, 2) := by decide +kernel
theorem dX9_init_7 : decode cX9_init 7 = .ok (.newarray .int, 2) := by decide +kernel
theorem dX9_init_9 : decode cX9_init 9 = .ok (.putfield 7, 3) := by decide +kernel
theorem dX9_init_12 : decode cX9_init 12 = .ok (.aload_n 0, 1) := by decide +kernel
theorem dX9_init_13 : decode cX9_init 13 = .ok (.bipush 54, 2) := by decide +kernel
theorem dX9_init_15 : decode cX9_init 15 = .ok (.newarray .int, 2) := by decide +kernel
theorem dX9_init_17 : decode cX9_init 17 = .ok (.putfield 13, 3) := by decide +kernel
theorem dX9_init_20 : decode cX9_init 20 = .ok (.aload_n 0, 1) := by decide +kernel
theorem dX9_init_21 : decode cX9_init 21 = .ok (.iconst 2, 1) := by decide +kernel
theorem dX9_init_22 : decode cX9_init 22 = .ok (.newarray .boolean, 2) := by decide +kernel
theorem dX9_init_24 : decode cX9_init 24 = .ok (.putfield 16, 3) := by decide +kernel
theorem dX9_init_27 : decode cX9_init 27 = .ok (.aload_n 0, 1) := by decide +kernel
theorem dX9_init_28 : decode cX9_init 28 = .ok (.sipush 648, 3) := by decide +kernel
theorem dX9_init_31 : decode cX9_init 31 = .ok (.newarray .int, 2) := by decide +kernel
theorem dX9_init_33 : decode cX9_init 33 = .ok (.putfield 20, 3) := by decide +kernel
theorem dX9_init_36 : decode cX9_init 36 = .ok (.aload_n 0, 1) := by decide +kernel
theorem dX9_init_37 : decode cX9_init 37 = .ok (.bipush 27, 2) := by decide +kernel
theorem dX9_init_39 : decode cX9_init 39 = .ok (.newarray .int, 2) := by decide +kernel
theorem dX9_init_41 : decode cX9_init 41 = .ok (.putfield 23, 3) := by decide +kernel
theorem dX9_init_44 : decode cX9_init 44 = .ok (.aload_n 0, 1) := by decide +kernel
theorem dX9_init_45 : decode cX9_init 45 = .ok (.bipush 8, 2) := by decide +kernel
theorem dX9_init_47 : decode cX9_init 47 = .ok (.newarray .int, 2) := by decide +kernel
theorem dX9_init_49 : decode cX9_init 49 = .ok (.putfield 26, 3) := by decide +kernel
theorem dX9_init_52 : decode cX9_init 52 = .ok (.aload_n 0, 1) := by decide +kernel
theorem dX9_init_53 : decode cX9_init 53 = .ok (.bipush 8, 2) := by decide +kernel
theorem dX9_init_55 : decode cX9_init 55 = .ok (.newarray .int, 2) := by decide +kernel
theorem dX9_init_57 : decode cX9_init 57 = .ok (.putfield 29, 3) := by decide +kernel
theorem dX9_init_60 : decode cX9_init 60 = .ok (.aload_n 0, 1) := by decide +kernel
theorem dX9_init_61 : decode cX9_init 61 = .ok (.bipush 8, 2) := by decide +kernel
theorem dX9_init_63 : decode cX9_init 63 = .ok (.newarray .boolean, 2) := by decide +kernel
theorem dX9_init_65 : decode cX9_init 65 = .ok (.putfield 32, 3) := by decide +kernel
theorem dX9_init_68 : decode cX9_init 68 = .ok (.aload_n 0, 1) := by decide +kernel
theorem dX9_init_69 : decode cX9_init 69 = .ok (.sipush 320, 3) := by decide +kernel
theorem dX9_init_72 : decode cX9_init 72 = .ok (.newarray .int, 2) := by decide +kernel
theorem dX9_init_74 : decode cX9_init 74 = .ok (.putfield 35, 3) := by decide +kernel
theorem dX9_init_77 : decode cX9_init 77 = .ok (.aload_n 0, 1) := by decide +kernel
theorem dX9_init_78 : decode cX9_init 78 = .ok (.bipush 40, 2) := by decide +kernel
theorem dX9_init_80 : decode cX9_init 80 = .ok (.newarray .int, 2) := by decide +kernel
theorem dX9_init_82 : decode cX9_init 82 = .ok (.putfield 38, 3) := by decide +kernel
theorem dX9_init_85 : decode cX9_init 85 = .ok (.aload_n 0, 1) := by decide +kernel
theorem dX9_init_86 : decode cX9_init 86 = .ok (.sipush 200, 3) := by decide +kernel
theorem dX9_init_89 : decode cX9_init 89 = .ok (.newarray .int, 2) := by decide +kernel
theorem dX9_init_91 : decode cX9_init 91 = .ok (.putfield 41, 3) := by decide +kernel
theorem dX9_init_94 : decode cX9_init 94 = .ok (.aload_n 0, 1) := by decide +kernel
theorem dX9_init_95 : decode cX9_init 95 = .ok (.bipush 8, 2) := by decide +kernel
theorem dX9_init_97 : decode cX9_init 97 = .ok (.newarray .int, 2) := by decide +kernel
theorem dX9_init_99 : decode cX9_init 99 = .ok (.putfield 44, 3) := by decide +kernel
theorem dX9_init_102 : decode cX9_init 102 = .ok (.aload_n 0, 1) := by decide +kernel
theorem dX9_init_103 : decode cX9_init 103 = .ok (.bipush 8, 2) := by decide +kernel
theorem dX9_init_105 : decode cX9_init 105 = .ok (.newarray .int, 2) := by decide +kernel
theorem dX9_init_107 : decode cX9_init 107 = .ok (.putfield 47, 3) := by decide +kernel
theorem dX9_init_110 : decode cX9_init 110 = .ok (.aload_n 0, 1) := by decide +kernel
theorem dX9_init_111 : decode cX9_init 111 = .ok (.bipush 8, 2) := by decide +kernel
theorem dX9_init_113 : decode cX9_init 113 = .ok (.newarray .int, 2) := by decide +kernel
theorem dX9_init_115 : decode cX9_init 115 = .ok (.putfield 50, 3) := by decide +kernel
theorem dX9_init_118 : decode cX9_init 118 = .ok (.aload_n 0, 1) := by decide +kernel
theorem dX9_init_119 : decode cX9_init 119 = .ok (.bipush 12, 2) := by decide +kernel
theorem dX9_init_121 : decode cX9_init 121 = .ok (.newarray .int, 2) := by decide +kernel
theorem dX9_init_123 : decode cX9_init 123 = .ok (.putfield 53, 3) := by decide +kernel
theorem dX9_init_126 : decode cX9_init 126 = .ok (.aload_n 0, 1) := by decide +kernel
theorem dX9_init_127 : decode cX9_init 127 = .ok (.bipush 8, 2) := by decide +kernel
theorem dX9_init_129 : decode cX9_init 129 = .ok (.newarray .int, 2) := by decide +kernel
theorem dX9_init_131 : decode cX9_init 131 = .ok (.putfield 56, 3) := by decide +kernel
theorem dX9_init_134 : decode cX9_init 134 = .ok (.aload_n 0, 1) := by decide +kernel
theorem dX9_init_135 : decode cX9_init 135 = .ok (.bipush 16, 2) := by decide +kernel
theorem dX9_init_137 : decode cX9_init 137 = .ok (.newarray .int, 2) := by decide +kernel
theorem dX9_init_139 : decode cX9_init 139 = .ok (.putfield 59, 3) := by decide +kernel
theorem dX9_init_142 : decode cX9_init 142 = .ok (.return_, 1) := by decide +kernel
theorem dX9_in_0 : decode cX9_in 0 = .ok (.lload_n 0, 1) := by decide +kernel
theorem dX9_in_1 : decode cX9_in 1 = .ok (.lload_n 2, 1) := by decide +kernel
theorem dX9_in_2 : decode cX9_in 2 = .ok (.lcmp, 1) := by decide +kernel
theorem dX9_in_3 : decode cX9_in 3 = .ok (.ifCond .lt 14, 3) := by decide +kernel
theorem dX9_in_6 : decode cX9_in 6 = .ok (.lload_n 0, 1) := by decide +kernel
theorem dX9_in_7 : decode cX9_in 7 = .ok (.lload 4, 2) := by decide +kernel
theorem dX9_in_9 : decode cX9_in 9 = .ok (.lcmp, 1) := by decide +kernel
theorem dX9_in_10 : decode cX9_in 10 = .ok (.ifCond .gt 7, 3) := by decide +kernel
theorem dX9_in_13 : decode cX9_in 13 = .ok (.iconst 1, 1) := by decide +kernel
theorem dX9_in_14 : decode cX9_in 14 = .ok (.goto 4, 3) := by decide +kernel
theorem dX9_in_17 : decode cX9_in 17 = .ok (.iconst 0, 1) := by decide +kernel
theorem dX9_in_18 : decode cX9_in 18 = .ok (.ireturn, 1) := by decide +kernel
theorem dX9_found_0 : decode cX9_found 0 = .ok (.aload_n 0, 1) := by decide +kernel
theorem dX9_found_1 : decode cX9_found 1 = .ok (.iload_n 1, 1) := by decide +kernel
theorem dX9_found_2 : decode cX9_found 2 = .ok (.putfield 62, 3) := by decide +kernel
theorem dX9_found_5 : decode cX9_found 5 = .ok (.ldc 66, 2) := by decide +kernel
theorem dX9_found_7 : decode cX9_found 7 = .ok (.iload_n 1, 1) := by decide +kernel
theorem dX9_found_8 : decode cX9_found 8 = .ok (.isub, 1) := by decide +kernel
theorem dX9_found_9 : decode cX9_found 9 = .ok (.ireturn, 1) := by decide +kernel
theorem dX9_well_0 : decode cX9_well 0 = .ok (.aload_n 0, 1) := by decide +kernel
theorem dX9_well_1 : decode cX9_well 1 = .ok (.iconst 0, 1) := by decide +kernel
theorem dX9_well_2 : decode cX9_well 2 = .ok (.putfield 62, 3) := by decide +kernel
theorem dX9_well_5 : decode cX9_well 5 = .ok (.iload_n 1, 1) := by decide +kernel
theorem dX9_well_6 : decode cX9_well 6 = .ok (.ireturn, 1) := by decide +kernel
set_option maxRecDepth 20000 in
theorem ggX9_isRow_X9_in : GoodIn wsX9_isRow wsX9_in := goodIn_r _ [5] (by decide +kernel) (by decide +kernel)
set_option maxRecDepth 20000 in
theorem gX9_isRow_X9_in : GoodIn wsX9_isRow (va_wsS RX9 69 yX9_in wsX9_in) := goodIn_app (goodIn_of _ (by decide +kernel)) ggX9_isRow_X9_in
theorem dX9_isRow_0 : decode cX9_isRow 0 = .ok (.iload_n 0, 1) := by decide +kernel
theorem dX9_isRow_1 : decode cX9_isRow 1 = .ok (.i2l, 1) := by decide +kernel
theorem dX9_isRow_2 : decode cX9_isRow 2 = .ok (.lconst 0, 1) := by decide +kernel
theorem dX9_isRow_3 : decode cX9_isRow 3 = .ok (.ldc2_w 67, 3) := by decide +kernel
theorem dX9_isRow_6 : decode cX9_isRow 6 = .ok (.invokestatic 69, 3) := by decide +kernel
theorem dX9_isRow_9 : decode cX9_isRow 9 = .ok (.ireturn, 1) := by decide +kernel
set_option maxRecDepth 20000 in
theorem ggX9_row_X9_isRow : GoodIn wsX9_row wsX9_isRow := goodIn_r _ [10, 11, 12, 13, 9, 14] (by decide +kernel) (by decide +kernel)
set_option maxRecDepth 20000 in
theorem gX9_row_X9_isRow : GoodIn wsX9_row (va_wsS RX9 73 yX9_isRow wsX9_isRow) := goodIn_app (goodIn_of _ (by decide +kernel)) ggX9_row_X9_isRow
set_option maxRecDepth 20000 in
theorem ggX9_row_X9_in : GoodIn wsX9_row wsX9_in := goodIn_r _ [14] (by decide +kernel) (by decide +kernel)
set_option maxRecDepth 20000 in
theorem gX9_row_X9_in : GoodIn wsX9_row (va_wsS RX9 69 yX9_in wsX9_in) := goodIn_app (goodIn_of _ (by decide +kernel)) ggX9_row_X9_in
set_option maxRecDepth 20000 in
theorem ggX9_row_X9_found : GoodIn wsX9_row wsX9_found := goodIn_r _ [18, 19, 20, 25, 26, 27, 28, 29, 30, 31, 32, 33, 34, 35, 36, 37, 38, 39, 40, 41, 42, 43, 44, 45, 46, 47, 48, 49, 50, 51, 52, 53, 54, 55] (by decide +kernel) (by decide +kernel)
set_option maxRecDepth 20000 in
theorem gX9_row_X9_found : GoodIn wsX9_row (wsV RX9 80 RX9 yX9_found wsX9_found) := goodIn_app (goodIn_of _ (by decide +kernel)) ggX9_row_X9_found
set_option maxRecDepth 20000 in
theorem ggX9_row_X9_well : GoodIn wsX9_row wsX9_well := goodIn_r _ [24, 19, 25, 26, 27, 28, 29, 30, 31, 32, 33, 34, 35, 36, 37, 38, 39, 40, 41, 42, 43, 44, 45, 46, 47, 48, 49, 50, 51, 52, 53, 54, 55] (by decide +kernel) (by decide +kernel)
set_option maxRecDepth 20000 in
theorem gX9_row_X9_well : GoodIn wsX9_row (wsV RX9 84 RX9 yX9_well wsX9_well) := goodIn_app (goodIn_of _ (by decide +kernel)) ggX9_row_X9_well
theorem dX9_row_0 : decode cX9_row 0 = .ok (.iload_n 1, 1) := by decide +kernel
theorem dX9_row_1 : decode cX9_row 1 = .ok (.invokestatic 73, 3) := by decide +kernel
theorem dX9_row_4 : decode cX9_row 4 = .ok (.ifCond .eq 21, 3) := by decide +kernel
theorem dX9_row_7 : decode cX9_row 7 = .ok (.iload_n 2, 1) := by decide +kernel
theorem dX9_row_8 : decode cX9_row 8 = .ok (.i2l, 1) := by decide +kernel
theorem dX9_row_9 : decode cX9_row 9 = .ok (.lconst 0, 1) := by decide +kernel
theorem dX9_row_10 : decode cX9_row 10 = .ok (.ldc2_w 77, 3) := by decide +kernel
theorem dX9_row_13 : decode cX9_row 13 = .ok (.invokestatic 69, 3) := by decide +kernel
theorem dX9_row_16 : decode cX9_row 16 = .ok (.ifCond .eq 9, 3) := by decide +kernel
theorem dX9_row_19 : decode cX9_row 19 = .ok (.iload_n 3, 1) := by decide +kernel
theorem dX9_row_20 : decode cX9_row 20 = .ok (.bipush 40, 2) := by decide +kernel
theorem dX9_row_22 : decode cX9_row 22 = .ok (.if_icmp .le 6, 3) := by decide +kernel
theorem dX9_row_25 : decode cX9_row 25 = .ok (.ldc 79, 2) := by decide +kernel
theorem dX9_row_27 : decode cX9_row 27 = .ok (.ireturn, 1) := by decide +kernel
theorem dX9_row_28 : decode cX9_row 28 = .ok (.iload_n 3, 1) := by decide +kernel
theorem dX9_row_29 : decode cX9_row 29 = .ok (.ifCond .ge 9, 3) := by decide +kernel
theorem dX9_row_32 : decode cX9_row 32 = .ok (.aload_n 0, 1) := by decide +kernel
theorem dX9_row_33 : decode cX9_row 33 = .ok (.iconst 4, 1) := by decide +kernel
theorem dX9_row_34 : decode cX9_row 34 = .ok (.invokevirtual 80, 3) := by decide +kernel
theorem dX9_row_37 : decode cX9_row 37 = .ok (.ireturn, 1) := by decide +kernel
theorem dX9_row_38 : decode cX9_row 38 = .ok (.aload_n 0, 1) := by decide +kernel
theorem dX9_row_39 : decode cX9_row 39 = .ok (.getfield 32, 3) := by decide +kernel
theorem dX9_row_42 : decode cX9_row 42 = .ok (.iload_n 1, 1) := by decide +kernel
theorem dX9_row_43 : decode cX9_row 43 = .ok (.iconst 1, 1) := by decide +kernel
theorem dX9_row_44 : decode cX9_row 44 = .ok (.bastore, 1) := by decide +kernel
theorem dX9_row_45 : decode cX9_row 45 = .ok (.aload_n 0, 1) := by decide +kernel
theorem dX9_row_46 : decode cX9_row 46 = .ok (.getfield 26, 3) := by decide +kernel
theorem dX9_row_49 : decode cX9_row 49 = .ok (.iload_n 1, 1) := by decide +kernel
theorem dX9_row_50 : decode cX9_row 50 = .ok (.iload_n 2, 1) := by decide +kernel
theorem dX9_row_51 : decode cX9_row 51 = .ok (.iastore, 1) := by decide +kernel
theorem dX9_row_52 : decode cX9_row 52 = .ok (.aload_n 0, 1) := by decide +kernel
theorem dX9_row_53 : decode cX9_row 53 = .ok (.getfield 29, 3) := by decide +kernel
theorem dX9_row_56 : decode cX9_row 56 = .ok (.iload_n 1, 1) := by decide +kernel
theorem dX9_row_57 : decode cX9_row 57 = .ok (.iload_n 3, 1) := by decide +kernel
theorem dX9_row_58 : decode cX9_row 58 = .ok (.iastore, 1) := by decide +kernel
theorem dX9_row_59 : decode cX9_row 59 = .ok (.iconst 0, 1) := by decide +kernel
theorem dX9_row_60 : decode cX9_row 60 = .ok (.istore 4, 2) := by decide +kernel
theorem dX9_row_62 : decode cX9_row 62 = .ok (.iload 4, 2) := by decide +kernel
theorem dX9_row_64 : decode cX9_row 64 = .ok (.bipush 40, 2) := by decide +kernel
theorem dX9_row_66 : decode cX9_row 66 = .ok (.if_icmp .ge 22, 3) := by decide +kernel
theorem dX9_row_69 : decode cX9_row 69 = .ok (.aload_n 0, 1) := by decide +kernel
theorem dX9_row_70 : decode cX9_row 70 = .ok (.getfield 35, 3) := by decide +kernel
theorem dX9_row_73 : decode cX9_row 73 = .ok (.bipush 40, 2) := by decide +kernel
theorem dX9_row_75 : decode cX9_row 75 = .ok (.iload_n 1, 1) := by decide +kernel
theorem dX9_row_76 : decode cX9_row 76 = .ok (.imul, 1) := by decide +kernel
theorem dX9_row_77 : decode cX9_row 77 = .ok (.iload 4, 2) := by decide +kernel
theorem dX9_row_79 : decode cX9_row 79 = .ok (.iadd, 1) := by decide +kernel
theorem dX9_row_80 : decode cX9_row 80 = .ok (.iconst 0, 1) := by decide +kernel
theorem dX9_row_81 : decode cX9_row 81 = .ok (.iastore, 1) := by decide +kernel
theorem dX9_row_82 : decode cX9_row 82 = .ok (.iinc 4 1, 3) := by decide +kernel
theorem dX9_row_85 : decode cX9_row 85 = .ok (.goto (-23), 3) := by decide +kernel
theorem dX9_row_88 : decode cX9_row 88 = .ok (.aload_n 0, 1) := by decide +kernel
theorem dX9_row_89 : decode cX9_row 89 = .ok (.iload_n 3, 1) := by decide +kernel
theorem dX9_row_90 : decode cX9_row 90 = .ok (.invokevirtual 84, 3) := by decide +kernel
theorem dX9_row_93 : decode cX9_row 93 = .ok (.ireturn, 1) := by decide +kernel
set_option maxRecDepth 20000 in
theorem ggX9_set_X9_isRow : GoodIn wsX9_set wsX9_isRow := goodIn_r _ [9, 10, 11, 12, 8, 13] (by decide +kernel) (by decide +kernel)
set_option maxRecDepth 20000 in
theorem gX9_set_X9_isRow : GoodIn wsX9_set (va_wsS RX9 73 yX9_isRow wsX9_isRow) := goodIn_app (goodIn_of _ (by decide +kernel)) ggX9_set_X9_isRow
set_option maxRecDepth 20000 in
theorem ggX9_set_X9_found : GoodIn wsX9_set wsX9_found := goodIn_r _ [17, 18, 19, 24, 25, 26, 27, 28, 29, 30, 31, 32, 33, 34, 35, 36, 37, 38, 39, 40, 41, 42, 43, 44, 45, 46, 47, 48, 49, 50, 51, 52, 53, 54] (by decide +kernel) (by decide +kernel)
set_option maxRecDepth 20000 in
theorem gX9_set_X9_found : GoodIn wsX9_set (wsV RX9 80 RX9 yX9_found wsX9_found) := goodIn_app (goodIn_of _ (by decide +kernel)) ggX9_set_X9_found
set_option maxRecDepth 20000 in
theorem ggX9_set_X9_in : GoodIn wsX9_set wsX9_in := goodIn_r _ [13] (by decide +kernel) (by decide +kernel)
set_option maxRecDepth 20000 in
theorem gX9_set_X9_in : GoodIn wsX9_set (va_wsS RX9 69 yX9_in wsX9_in) := goodIn_app (goodIn_of _ (by decide +kernel)) ggX9_set_X9_in
set_option maxRecDepth 20000 in
theorem ggX9_set_X9_well : GoodIn wsX9_set wsX9_well := goodIn_r _ [23, 18, 24, 25, 26, 27, 28, 29, 30, 31, 32, 33, 34, 35, 36, 37, 38, 39, 40, 41, 42, 43, 44, 45, 46, 47, 48, 49, 50, 51, 52, 53, 54] (by decide +kernel) (by decide +kernel)
set_option maxRecDepth 20000 in
theorem gX9_set_X9_well : GoodIn wsX9_set (wsV RX9 84 RX9 yX9_well wsX9_well) := goodIn_app (goodIn_of _ (by decide +kernel)) ggX9_set_X9_well
theorem dX9_set_0 : decode cX9_set 0 = .ok (.iload_n 1, 1) := by decide +kernel
theorem dX9_set_1 : decode cX9_set 1 = .ok (.invokestatic 73, 3) := by decide +kernel
theorem dX9_set_4 : decode cX9_set 4 = .ok (.ifCond .ne 6, 3) := by decide +kernel
theorem dX9_set_7 : decode cX9_set 7 = .ok (.ldc 79, 2) := by decide +kernel
theorem dX9_set_9 : decode cX9_set 9 = .ok (.ireturn, 1) := by decide +kernel
theorem dX9_set_10 : decode cX9_set 10 = .ok (.aload_n 0, 1) := by decide +kernel
theorem dX9_set_11 : decode cX9_set 11 = .ok (.getfield 32, 3) := by decide +kernel
theorem dX9_set_14 : decode cX9_set 14 = .ok (.iload_n 1, 1) := by decide +kernel
theorem dX9_set_15 : decode cX9_set 15 = .ok (.baload, 1) := by decide +kernel
theorem dX9_set_16 : decode cX9_set 16 = .ok (.ifCond .ne 9, 3) := by decide +kernel
theorem dX9_set_19 : decode cX9_set 19 = .ok (.aload_n 0, 1) := by decide +kernel
theorem dX9_set_20 : decode cX9_set 20 = .ok (.iconst 1, 1) := by decide +kernel
theorem dX9_set_21 : decode cX9_set 21 = .ok (.invokevirtual 80, 3) := by decide +kernel
theorem dX9_set_24 : decode cX9_set 24 = .ok (.ireturn, 1) := by decide +kernel
theorem dX9_set_25 : decode cX9_set 25 = .ok (.iload_n 2, 1) := by decide +kernel
theorem dX9_set_26 : decode cX9_set 26 = .ok (.i2l, 1) := by decide +kernel
theorem dX9_set_27 : decode cX9_set 27 = .ok (.lconst 0, 1) := by decide +kernel
theorem dX9_set_28 : decode cX9_set 28 = .ok (.aload_n 0, 1) := by decide +kernel
theorem dX9_set_29 : decode cX9_set 29 = .ok (.getfield 29, 3) := by decide +kernel
theorem dX9_set_32 : decode cX9_set 32 = .ok (.iload_n 1, 1) := by decide +kernel
theorem dX9_set_33 : decode cX9_set 33 = .ok (.iaload, 1) := by decide +kernel
theorem dX9_set_34 : decode cX9_set 34 = .ok (.iconst 1, 1) := by decide +kernel
theorem dX9_set_35 : decode cX9_set 35 = .ok (.isub, 1) := by decide +kernel
theorem dX9_set_36 : decode cX9_set 36 = .ok (.i2l, 1) := by decide +kernel
theorem dX9_set_37 : decode cX9_set 37 = .ok (.invokestatic 69, 3) := by decide +kernel
theorem dX9_set_40 : decode cX9_set 40 = .ok (.ifCond .ne 9, 3) := by decide +kernel
theorem dX9_set_43 : decode cX9_set 43 = .ok (.aload_n 0, 1) := by decide +kernel
theorem dX9_set_44 : decode cX9_set 44 = .ok (.iconst 2, 1) := by decide +kernel
theorem dX9_set_45 : decode cX9_set 45 = .ok (.invokevirtual 80, 3) := by decide +kernel
theorem dX9_set_48 : decode cX9_set 48 = .ok (.ireturn, 1) := by decide +kernel
theorem dX9_set_49 : decode cX9_set 49 = .ok (.aload_n 0, 1) := by decide +kernel
theorem dX9_set_50 : decode cX9_set 50 = .ok (.getfield 26, 3) := by decide +kernel
theorem dX9_set_53 : decode cX9_set 53 = .ok (.iload_n 1, 1) := by decide +kernel
theorem dX9_set_54 : decode cX9_set 54 = .ok (.iaload, 1) := by decide +kernel
theorem dX9_set_55 : decode cX9_set 55 = .ok (.ifCond .ne 13, 3) := by decide +kernel
theorem dX9_set_58 : decode cX9_set 58 = .ok (.iload_n 3, 1) := by decide +kernel
theorem dX9_set_59 : decode cX9_set 59 = .ok (.bipush 24, 2) := by decide +kernel
theorem dX9_set_61 : decode cX9_set 61 = .ok (.ishl, 1) := by decide +kernel
theorem dX9_set_62 : decode cX9_set 62 = .ok (.bipush 24, 2) := by decide +kernel
theorem dX9_set_64 : decode cX9_set 64 = .ok (.ishr, 1) := by decide +kernel
theorem dX9_set_65 : decode cX9_set 65 = .ok (.goto 24, 3) := by decide +kernel
theorem dX9_set_68 : decode cX9_set 68 = .ok (.aload_n 0, 1) := by decide +kernel
theorem dX9_set_69 : decode cX9_set 69 = .ok (.getfield 26, 3) := by decide +kernel
theorem dX9_set_72 : decode cX9_set 72 = .ok (.iload_n 1, 1) := by decide +kernel
theorem dX9_set_73 : decode cX9_set 73 = .ok (.iaload, 1) := by decide +kernel
theorem dX9_set_74 : decode cX9_set 74 = .ok (.iconst 1, 1) := by decide +kernel
theorem dX9_set_75 : decode cX9_set 75 = .ok (.if_icmp .ne 13, 3) := by decide +kernel
theorem dX9_set_78 : decode cX9_set 78 = .ok (.iload_n 3, 1) := by decide +kernel
theorem dX9_set_79 : decode cX9_set 79 = .ok (.bipush 16, 2) := by decide +kernel
theorem dX9_set_81 : decode cX9_set 81 = .ok (.ishl, 1) := by decide +kernel
theorem dX9_set_82 : decode cX9_set 82 = .ok (.bipush 16, 2) := by decide +kernel
theorem dX9_set_84 : decode cX9_set 84 = .ok (.ishr, 1) := by decide +kernel
theorem dX9_set_85 : decode cX9_set 85 = .ok (.goto 4, 3) := by decide +kernel
theorem dX9_set_88 : decode cX9_set 88 = .ok (.iload_n 3, 1) := by decide +kernel
theorem dX9_set_89 : decode cX9_set 89 = .ok (.istore 4, 2) := by decide +kernel
theorem dX9_set_91 : decode cX9_set 91 = .ok (.aload_n 0, 1) := by decide +kernel
theorem dX9_set_92 : decode cX9_set 92 = .ok (.getfield 35, 3) := by decide +kernel
theorem dX9_set_95 : decode cX9_set 95 = .ok (.bipush 40, 2) := by decide +kernel
theorem dX9_set_97 : decode cX9_set 97 = .ok (.iload_n 1, 1) := by decide +kernel
theorem dX9_set_98 : decode cX9_set 98 = .ok (.imul, 1) := by decide +kernel
theorem dX9_set_99 : decode cX9_set 99 = .ok (.iload_n 2, 1) := by decide +kernel
theorem dX9_set_100 : decode cX9_set 100 = .ok (.iadd, 1) := by decide +kernel
theorem dX9_set_101 : decode cX9_set 101 = .ok (.iload 4, 2) := by decide +kernel
theorem dX9_set_103 : decode cX9_set 103 = .ok (.iastore, 1) := by decide +kernel
theorem dX9_set_104 : decode cX9_set 104 = .ok (.aload_n 0, 1) := by decide +kernel
theorem dX9_set_105 : decode cX9_set 105 = .ok (.iload 4, 2) := by decide +kernel
theorem dX9_set_107 : decode cX9_set 107 = .ok (.invokevirtual 84, 3) := by decide +kernel
theorem dX9_set_110 : decode cX9_set 110 = .ok (.ireturn, 1) := by decide +kernel
set_option maxRecDepth 20000 in
theorem ggX9_copy_X9_isRow : GoodIn wsX9_copy wsX9_isRow := goodIn_r _ [10, 11, 12, 13, 9, 14] (by decide +kernel) (by decide +kernel)
set_option maxRecDepth 20000 in
theorem gX9_copy_X9_isRow : GoodIn wsX9_copy (va_wsS RX9 73 yX9_isRow wsX9_isRow) := goodIn_app (goodIn_of _ (by decide +kernel)) ggX9_copy_X9_isRow
set_option maxRecDepth 20000 in
theorem ggX9_copy_X9_found : GoodIn wsX9_copy wsX9_found := goodIn_r _ [18, 19, 20, 25, 26, 27, 28, 29, 30, 31, 32, 33, 34, 35, 36, 37, 38, 39, 40, 41, 42, 43, 44, 45, 46, 47, 48, 49, 50, 51, 52, 53, 54, 55] (by decide +kernel) (by decide +kernel)
set_option maxRecDepth 20000 in
theorem gX9_copy_X9_found : GoodIn wsX9_copy (wsV RX9 80 RX9 yX9_found wsX9_found) := goodIn_app (goodIn_of _ (by decide +kernel)) ggX9_copy_X9_found
set_option maxRecDepth 20000 in
theorem ggX9_copy_X9_well : GoodIn wsX9_copy wsX9_well := goodIn_r _ [24, 19, 25, 26, 27, 28, 29, 30, 31, 32, 33, 34, 35, 36, 37, 38, 39, 40, 41, 42, 43, 44, 45, 46, 47, 48, 49, 50, 51, 52, 53, 54, 55] (by decide +kernel) (by decide +kernel)
set_option maxRecDepth 20000 in
theorem gX9_copy_X9_well : GoodIn wsX9_copy (wsV RX9 84 RX9 yX9_well wsX9_well) := goodIn_app (goodIn_of _ (by decide +kernel)) ggX9_copy_X9_well
theorem dX9_copy_0 : decode cX9_copy 0 = .ok (.iload_n 1, 1) := by decide +kernel
theorem dX9_copy_1 : decode cX9_copy 1 = .ok (.invokestatic 73, 3) := by decide +kernel
theorem dX9_copy_4 : decode cX9_copy 4 = .ok (.ifCond .eq 10, 3) := by decide +kernel
theorem dX9_copy_7 : decode cX9_copy 7 = .ok (.iload_n 3, 1) := by decide +kernel
theorem dX9_copy_8 : decode cX9_copy 8 = .ok (.invokestatic 73, 3) := by decide +kernel
theorem dX9_copy_11 : decode cX9_copy 11 = .ok (.ifCond .ne 6, 3) := by decide +kernel
theorem dX9_copy_14 : decode cX9_copy 14 = .ok (.ldc 79, 2) := by decide +kernel
theorem dX9_copy_16 : decode cX9_copy 16 = .ok (.ireturn, 1) := by decide +kernel
theorem dX9_copy_17 : decode cX9_copy 17 = .ok (.aload_n 0, 1) := by decide +kernel
theorem dX9_copy_18 : decode cX9_copy 18 = .ok (.getfield 32, 3) := by decide +kernel
theorem dX9_copy_21 : decode cX9_copy 21 = .ok (.iload_n 1, 1) := by decide +kernel
theorem dX9_copy_22 : decode cX9_copy 22 = .ok (.baload, 1) := by decide +kernel
theorem dX9_copy_23 : decode cX9_copy 23 = .ok (.ifCond .eq 12, 3) := by decide +kernel
theorem dX9_copy_26 : decode cX9_copy 26 = .ok (.aload_n 0, 1) := by decide +kernel
theorem dX9_copy_27 : decode cX9_copy 27 = .ok (.getfield 32, 3) := by decide +kernel
theorem dX9_copy_30 : decode cX9_copy 30 = .ok (.iload_n 3, 1) := by decide +kernel
theorem dX9_copy_31 : decode cX9_copy 31 = .ok (.baload, 1) := by decide +kernel
theorem dX9_copy_32 : decode cX9_copy 32 = .ok (.ifCond .ne 9, 3) := by decide +kernel
theorem dX9_copy_35 : decode cX9_copy 35 = .ok (.aload_n 0, 1) := by decide +kernel
theorem dX9_copy_36 : decode cX9_copy 36 = .ok (.iconst 1, 1) := by decide +kernel
theorem dX9_copy_37 : decode cX9_copy 37 = .ok (.invokevirtual 80, 3) := by decide +kernel
theorem dX9_copy_40 : decode cX9_copy 40 = .ok (.ireturn, 1) := by decide +kernel
theorem dX9_copy_41 : decode cX9_copy 41 = .ok (.aload_n 0, 1) := by decide +kernel
theorem dX9_copy_42 : decode cX9_copy 42 = .ok (.getfield 26, 3) := by decide +kernel
theorem dX9_copy_45 : decode cX9_copy 45 = .ok (.iload_n 1, 1) := by decide +kernel
theorem dX9_copy_46 : decode cX9_copy 46 = .ok (.iaload, 1) := by decide +kernel
theorem dX9_copy_47 : decode cX9_copy 47 = .ok (.aload_n 0, 1) := by decide +kernel
theorem dX9_copy_48 : decode cX9_copy 48 = .ok (.getfield 26, 3) := by decide +kernel
theorem dX9_copy_51 : decode cX9_copy 51 = .ok (.iload_n 3, 1) := by decide +kernel
theorem dX9_copy_52 : decode cX9_copy 52 = .ok (.iaload, 1) := by decide +kernel
theorem dX9_copy_53 : decode cX9_copy 53 = .ok (.if_icmp .eq 9, 3) := by decide +kernel
theorem dX9_copy_56 : decode cX9_copy 56 = .ok (.aload_n 0, 1) := by decide +kernel
theorem dX9_copy_57 : decode cX9_copy 57 = .ok (.iconst 5, 1) := by decide +kernel
theorem dX9_copy_58 : decode cX9_copy 58 = .ok (.invokevirtual 80, 3) := by decide +kernel
theorem dX9_copy_61 : decode cX9_copy 61 = .ok (.ireturn, 1) := by decide +kernel
theorem dX9_copy_62 : decode cX9_copy 62 = .ok (.iload_n 2, 1) := by decide +kernel
theorem dX9_copy_63 : decode cX9_copy 63 = .ok (.ifCond .lt 48, 3) := by decide +kernel
theorem dX9_copy_66 : decode cX9_copy 66 = .ok (.iload 4, 2) := by decide +kernel
theorem dX9_copy_68 : decode cX9_copy 68 = .ok (.ifCond .lt 43, 3) := by decide +kernel
theorem dX9_copy_71 : decode cX9_copy 71 = .ok (.iload 5, 2) := by decide +kernel
theorem dX9_copy_73 : decode cX9_copy 73 = .ok (.ifCond .lt 38, 3) := by decide +kernel
theorem dX9_copy_76 : decode cX9_copy 76 = .ok (.iload_n 2, 1) := by decide +kernel
theorem dX9_copy_77 : decode cX9_copy 77 = .ok (.i2l, 1) := by decide +kernel
theorem dX9_copy_78 : decode cX9_copy 78 = .ok (.iload 5, 2) := by decide +kernel
theorem dX9_copy_80 : decode cX9_copy 80 = .ok (.i2l, 1) := by decide +kernel
theorem dX9_copy_81 : decode cX9_copy 81 = .ok (.ladd, 1) := by decide +kernel
theorem dX9_copy_82 : decode cX9_copy 82 = .ok (.aload_n 0, 1) := by decide +kernel
theorem dX9_copy_83 : decode cX9_copy 83 = .ok (.getfield 29, 3) := by decide +kernel
theorem dX9_copy_86 : decode cX9_copy 86 = .ok (.iload_n 1, 1) := by decide +kernel
theorem dX9_copy_87 : decode cX9_copy 87 = .ok (.iaload, 1) := by decide +kernel
theorem dX9_copy_88 : decode cX9_copy 88 = .ok (.i2l, 1) := by decide +kernel
theorem dX9_copy_89 : decode cX9_copy 89 = .ok (.lcmp, 1) := by decide +kernel
theorem dX9_copy_90 : decode cX9_copy 90 = .ok (.ifCond .gt 21, 3) := by decide +kernel
theorem dX9_copy_93 : decode cX9_copy 93 = .ok (.iload 4, 2) := by decide +kernel
theorem dX9_copy_95 : decode cX9_copy 95 = .ok (.i2l, 1) := by decide +kernel
theorem dX9_copy_96 : decode cX9_copy 96 = .ok (.iload 5, 2) := by decide +kernel
theorem dX9_copy_98 : decode cX9_copy 98 = .ok (.i2l, 1) := by decide +kernel
theorem dX9_copy_99 : decode cX9_copy 99 = .ok (.ladd, 1) := by decide +kernel
theorem dX9_copy_100 : decode cX9_copy 100 = .ok (.aload_n 0, 1) := by decide +kernel
theorem dX9_copy_101 : decode cX9_copy 101 = .ok (.getfield 29, 3) := by decide +kernel
theorem dX9_copy_104 : decode cX9_copy 104 = .ok (.iload_n 3, 1) := by decide +kernel
theorem dX9_copy_105 : decode cX9_copy 105 = .ok (.iaload, 1) := by decide +kernel
theorem dX9_copy_106 : decode cX9_copy 106 = .ok (.i2l, 1) := by decide +kernel
theorem dX9_copy_107 : decode cX9_copy 107 = .ok (.lcmp, 1) := by decide +kernel
theorem dX9_copy_108 : decode cX9_copy 108 = .ok (.ifCond .le 9, 3) := by decide +kernel
theorem dX9_copy_111 : decode cX9_copy 111 = .ok (.aload_n 0, 1) := by decide +kernel
theorem dX9_copy_112 : decode cX9_copy 112 = .ok (.iconst 2, 1) := by decide +kernel
theorem dX9_copy_113 : decode cX9_copy 113 = .ok (.invokevirtual 80, 3) := by decide +kernel
theorem dX9_copy_116 : decode cX9_copy 116 = .ok (.ireturn, 1) := by decide +kernel
theorem dX9_copy_117 : decode cX9_copy 117 = .ok (.iconst 0, 1) := by decide +kernel
theorem dX9_copy_118 : decode cX9_copy 118 = .ok (.istore 6, 2) := by decide +kernel
theorem dX9_copy_120 : decode cX9_copy 120 = .ok (.iload 6, 2) := by decide +kernel
theorem dX9_copy_122 : decode cX9_copy 122 = .ok (.iload 5, 2) := by decide +kernel
theorem dX9_copy_124 : decode cX9_copy 124 = .ok (.if_icmp .ge 30, 3) := by decide +kernel
theorem dX9_copy_127 : decode cX9_copy 127 = .ok (.aload_n 0, 1) := by decide +kernel
theorem dX9_copy_128 : decode cX9_copy 128 = .ok (.getfield 38, 3) := by decide +kernel
theorem dX9_copy_131 : decode cX9_copy 131 = .ok (.iload 6, 2) := by decide +kernel
theorem dX9_copy_133 : decode cX9_copy 133 = .ok (.aload_n 0, 1) := by decide +kernel
theorem dX9_copy_134 : decode cX9_copy 134 = .ok (.getfield 35, 3) := by decide +kernel
theorem dX9_copy_137 : decode cX9_copy 137 = .ok (.bipush 40, 2) := by decide +kernel
theorem dX9_copy_139 : decode cX9_copy 139 = .ok (.iload_n 1, 1) := by decide +kernel
theorem dX9_copy_140 : decode cX9_copy 140 = .ok (.imul, 1) := by decide +kernel
theorem dX9_copy_141 : decode cX9_copy 141 = .ok (.iload_n 2, 1) := by decide +kernel
theorem dX9_copy_142 : decode cX9_copy 142 = .ok (.iadd, 1) := by decide +kernel
theorem dX9_copy_143 : decode cX9_copy 143 = .ok (.iload 6, 2) := by decide +kernel
theorem dX9_copy_145 : decode cX9_copy 145 = .ok (.iadd, 1) := by decide +kernel
theorem dX9_copy_146 : decode cX9_copy 146 = .ok (.iaload, 1) := by decide +kernel
theorem dX9_copy_147 : decode cX9_copy 147 = .ok (.iastore, 1) := by decide +kernel
theorem dX9_copy_148 : decode cX9_copy 148 = .ok (.iinc 6 1, 3) := by decide +kernel
theorem dX9_copy_151 : decode cX9_copy 151 = .ok (.goto (-31), 3) := by decide +kernel
theorem dX9_copy_154 : decode cX9_copy 154 = .ok (.iconst 0, 1) := by decide +kernel
theorem dX9_copy_155 : decode cX9_copy 155 = .ok (.istore 6, 2) := by decide +kernel
theorem dX9_copy_157 : decode cX9_copy 157 = .ok (.iload 6, 2) := by decide +kernel
theorem dX9_copy_159 : decode cX9_copy 159 = .ok (.iload 5, 2) := by decide +kernel
theorem dX9_copy_161 : decode cX9_copy 161 = .ok (.if_icmp .ge 31, 3) := by decide +kernel
theorem dX9_copy_164 : decode cX9_copy 164 = .ok (.aload_n 0, 1) := by decide +kernel
theorem dX9_copy_165 : decode cX9_copy 165 = .ok (.getfield 35, 3) := by decide +kernel
theorem dX9_copy_168 : decode cX9_copy 168 = .ok (.bipush 40, 2) := by decide +kernel
theorem dX9_copy_170 : decode cX9_copy 170 = .ok (.iload_n 3, 1) := by decide +kernel
theorem dX9_copy_171 : decode cX9_copy 171 = .ok (.imul, 1) := by decide +kernel
theorem dX9_copy_172 : decode cX9_copy 172 = .ok (.iload 4, 2) := by decide +kernel
theorem dX9_copy_174 : decode cX9_copy 174 = .ok (.iadd, 1) := by decide +kernel
theorem dX9_copy_175 : decode cX9_copy 175 = .ok (.iload 6, 2) := by decide +kernel
theorem dX9_copy_177 : decode cX9_copy 177 = .ok (.iadd, 1) := by decide +kernel
theorem dX9_copy_178 : decode cX9_copy 178 = .ok (.aload_n 0, 1) := by decide +kernel
theorem dX9_copy_179 : decode cX9_copy 179 = .ok (.getfield 38, 3) := by decide +kernel
theorem dX9_copy_182 : decode cX9_copy 182 = .ok (.iload 6, 2) := by decide +kernel
theorem dX9_copy_184 : decode cX9_copy 184 = .ok (.iaload, 1) := by decide +kernel
theorem dX9_copy_185 : decode cX9_copy 185 = .ok (.iastore, 1) := by decide +kernel
theorem dX9_copy_186 : decode cX9_copy 186 = .ok (.iinc 6 1, 3) := by decide +kernel
theorem dX9_copy_189 : decode cX9_copy 189 = .ok (.goto (-32), 3) := by decide +kernel
theorem dX9_copy_192 : decode cX9_copy 192 = .ok (.aload_n 0, 1) := by decide +kernel
theorem dX9_copy_193 : decode cX9_copy 193 = .ok (.iload 5, 2) := by decide +kernel
theorem dX9_copy_195 : decode cX9_copy 195 = .ok (.invokevirtual 84, 3) := by decide +kernel
theorem dX9_copy_198 : decode cX9_copy 198 = .ok (.ireturn, 1) := by decide +kernel
set_option maxRecDepth 20000 in
theorem ggX9_drop_X9_isRow : GoodIn wsX9_drop wsX9_isRow := goodIn_r _ [7, 8, 9, 10, 6, 11] (by decide +kernel) (by decide +kernel)
set_option maxRecDepth 20000 in
theorem gX9_drop_X9_isRow : GoodIn wsX9_drop (va_wsS RX9 73 yX9_isRow wsX9_isRow) := goodIn_app (goodIn_of _ (by decide +kernel)) ggX9_drop_X9_isRow
set_option maxRecDepth 20000 in
theorem ggX9_drop_X9_found : GoodIn wsX9_drop wsX9_found := goodIn_r _ [15, 16, 17, 22, 23, 24, 25, 26, 27, 28, 29, 30, 31, 32, 33, 34, 35, 36, 37, 38, 39, 40, 41, 42, 43, 44, 45, 46, 47, 48, 49, 50, 51, 52] (by decide +kernel) (by decide +kernel)
set_option maxRecDepth 20000 in
theorem gX9_drop_X9_found : GoodIn wsX9_drop (wsV RX9 80 RX9 yX9_found wsX9_found) := goodIn_app (goodIn_of _ (by decide +kernel)) ggX9_drop_X9_found
set_option maxRecDepth 20000 in
theorem ggX9_drop_X9_well : GoodIn wsX9_drop wsX9_well := goodIn_r _ [21, 16, 22, 23, 24, 25, 26, 27, 28, 29, 30, 31, 32, 33, 34, 35, 36, 37, 38, 39, 40, 41, 42, 43, 44, 45, 46, 47, 48, 49, 50, 51, 52] (by decide +kernel) (by decide +kernel)
set_option maxRecDepth 20000 in
theorem gX9_drop_X9_well : GoodIn wsX9_drop (wsV RX9 84 RX9 yX9_well wsX9_well) := goodIn_app (goodIn_of _ (by decide +kernel)) ggX9_drop_X9_well
theorem dX9_drop_0 : decode cX9_drop 0 = .ok (.iload_n 1, 1) := by decide +kernel
theorem dX9_drop_1 : decode cX9_drop 1 = .ok (.invokestatic 73, 3) := by decide +kernel
theorem dX9_drop_4 : decode cX9_drop 4 = .ok (.ifCond .ne 6, 3) := by decide +kernel
theorem dX9_drop_7 : decode cX9_drop 7 = .ok (.ldc 79, 2) := by decide +kernel
theorem dX9_drop_9 : decode cX9_drop 9 = .ok (.ireturn, 1) := by decide +kernel
theorem dX9_drop_10 : decode cX9_drop 10 = .ok (.aload_n 0, 1) := by decide +kernel
theorem dX9_drop_11 : decode cX9_drop 11 = .ok (.getfield 32, 3) := by decide +kernel
theorem dX9_drop_14 : decode cX9_drop 14 = .ok (.iload_n 1, 1) := by decide +kernel
theorem dX9_drop_15 : decode cX9_drop 15 = .ok (.baload, 1) := by decide +kernel
theorem dX9_drop_16 : decode cX9_drop 16 = .ok (.ifCond .ne 9, 3) := by decide +kernel
theorem dX9_drop_19 : decode cX9_drop 19 = .ok (.aload_n 0, 1) := by decide +kernel
theorem dX9_drop_20 : decode cX9_drop 20 = .ok (.iconst 1, 1) := by decide +kernel
theorem dX9_drop_21 : decode cX9_drop 21 = .ok (.invokevirtual 80, 3) := by decide +kernel
theorem dX9_drop_24 : decode cX9_drop 24 = .ok (.ireturn, 1) := by decide +kernel
theorem dX9_drop_25 : decode cX9_drop 25 = .ok (.aload_n 0, 1) := by decide +kernel
theorem dX9_drop_26 : decode cX9_drop 26 = .ok (.getfield 32, 3) := by decide +kernel
theorem dX9_drop_29 : decode cX9_drop 29 = .ok (.iload_n 1, 1) := by decide +kernel
theorem dX9_drop_30 : decode cX9_drop 30 = .ok (.iconst 0, 1) := by decide +kernel
theorem dX9_drop_31 : decode cX9_drop 31 = .ok (.bastore, 1) := by decide +kernel
theorem dX9_drop_32 : decode cX9_drop 32 = .ok (.aload_n 0, 1) := by decide +kernel
theorem dX9_drop_33 : decode cX9_drop 33 = .ok (.aload_n 0, 1) := by decide +kernel
theorem dX9_drop_34 : decode cX9_drop 34 = .ok (.getfield 29, 3) := by decide +kernel
theorem dX9_drop_37 : decode cX9_drop 37 = .ok (.iload_n 1, 1) := by decide +kernel
theorem dX9_drop_38 : decode cX9_drop 38 = .ok (.iaload, 1) := by decide +kernel
theorem dX9_drop_39 : decode cX9_drop 39 = .ok (.invokevirtual 84, 3) := by decide +kernel
theorem dX9_drop_42 : decode cX9_drop 42 = .ok (.ireturn, 1) := by decide +kernel
set_option maxRecDepth 20000 in
theorem ggX9_feed_X9_in : GoodIn wsX9_feed wsX9_in := goodIn_r _ [10] (by decide +kernel) (by decide +kernel)
set_option maxRecDepth 20000 in
theorem gX9_feed_X9_in : GoodIn wsX9_feed (va_wsS RX9 69 yX9_in wsX9_in) := goodIn_app (goodIn_of _ (by decide +kernel)) ggX9_feed_X9_in
theorem dX9_feed_0 : decode cX9_feed 0 = .ok (.iload_n 3, 1) := by decide +kernel
theorem dX9_feed_1 : decode cX9_feed 1 = .ok (.i2l, 1) := by decide +kernel
theorem dX9_feed_2 : decode cX9_feed 2 = .ok (.lconst 1, 1) := by decide +kernel
theorem dX9_feed_3 : decode cX9_feed 3 = .ok (.ldc2_w 87, 3) := by decide +kernel
theorem dX9_feed_6 : decode cX9_feed 6 = .ok (.invokestatic 69, 3) := by decide +kernel
theorem dX9_feed_9 : decode cX9_feed 9 = .ok (.ifCond .ne 6, 3) := by decide +kernel
theorem dX9_feed_12 : decode cX9_feed 12 = .ok (.ldc 79, 2) := by decide +kernel
theorem dX9_feed_14 : decode cX9_feed 14 = .ok (.ireturn, 1) := by decide +kernel
theorem dX9_feed_15 : decode cX9_feed 15 = .ok (.aload_n 0, 1) := by decide +kernel
theorem dX9_feed_16 : decode cX9_feed 16 = .ok (.getfield 89, 3) := by decide +kernel
theorem dX9_feed_19 : decode cX9_feed 19 = .ok (.iload_n 3, 1) := by decide +kernel
theorem dX9_feed_20 : decode cX9_feed 20 = .ok (.iadd, 1) := by decide +kernel
theorem dX9_feed_21 : decode cX9_feed 21 = .ok (.sipush 200, 3) := by decide +kernel
theorem dX9_feed_24 : decode cX9_feed 24 = .ok (.if_icmp .le 6, 3) := by decide +kernel
theorem dX9_feed_27 : decode cX9_feed 27 = .ok (.ldc 92, 2) := by decide +kernel
theorem dX9_feed_29 : decode cX9_feed 29 = .ok (.ireturn, 1) := by decide +kernel
theorem dX9_feed_30 : decode cX9_feed 30 = .ok (.iload_n 3, 1) := by decide +kernel
theorem dX9_feed_31 : decode cX9_feed 31 = .ok (.iconst 1, 1) := by decide +kernel
theorem dX9_feed_32 : decode cX9_feed 32 = .ok (.isub, 1) := by decide +kernel
theorem dX9_feed_33 : decode cX9_feed 33 = .ok (.istore 4, 2) := by decide +kernel
theorem dX9_feed_35 : decode cX9_feed 35 = .ok (.iload 4, 2) := by decide +kernel
theorem dX9_feed_37 : decode cX9_feed 37 = .ok (.ifCond .lt 40, 3) := by decide +kernel
theorem dX9_feed_40 : decode cX9_feed 40 = .ok (.aload_n 0, 1) := by decide +kernel
theorem dX9_feed_41 : decode cX9_feed 41 = .ok (.getfield 41, 3) := by decide +kernel
theorem dX9_feed_44 : decode cX9_feed 44 = .ok (.aload_n 0, 1) := by decide +kernel
theorem dX9_feed_45 : decode cX9_feed 45 = .ok (.getfield 89, 3) := by decide +kernel
theorem dX9_feed_48 : decode cX9_feed 48 = .ok (.lload_n 1, 1) := by decide +kernel
theorem dX9_feed_49 : decode cX9_feed 49 = .ok (.bipush 8, 2) := by decide +kernel
theorem dX9_feed_51 : decode cX9_feed 51 = .ok (.iload 4, 2) := by decide +kernel
theorem dX9_feed_53 : decode cX9_feed 53 = .ok (.imul, 1) := by decide +kernel
theorem dX9_feed_54 : decode cX9_feed 54 = .ok (.lushr, 1) := by decide +kernel
theorem dX9_feed_55 : decode cX9_feed 55 = .ok (.ldc2_w 93, 3) := by decide +kernel
theorem dX9_feed_58 : decode cX9_feed 58 = .ok (.land, 1) := by decide +kernel
theorem dX9_feed_59 : decode cX9_feed 59 = .ok (.l2i, 1) := by decide +kernel
theorem dX9_feed_60 : decode cX9_feed 60 = .ok (.iastore, 1) := by decide +kernel
theorem dX9_feed_61 : decode cX9_feed 61 = .ok (.aload_n 0, 1) := by decide +kernel
theorem dX9_feed_62 : decode cX9_feed 62 = .ok (.dup, 1) := by decide +kernel
theorem dX9_feed_63 : decode cX9_feed 63 = .ok (.getfield 89, 3) := by decide +kernel
theorem dX9_feed_66 : decode cX9_feed 66 = .ok (.iconst 1, 1) := by decide +kernel
theorem dX9_feed_67 : decode cX9_feed 67 = .ok (.iadd, 1) := by decide +kernel
theorem dX9_feed_68 : decode cX9_feed 68 = .ok (.putfield 89, 3) := by decide +kernel
theorem dX9_feed_71 : decode cX9_feed 71 = .ok (.iinc 4 (-1), 3) := by decide +kernel
theorem dX9_feed_74 : decode cX9_feed 74 = .ok (.goto (-39), 3) := by decide +kernel
theorem dX9_feed_77 : decode cX9_feed 77 = .ok (.aload_n 0, 1) := by decide +kernel
theorem dX9_feed_78 : decode cX9_feed 78 = .ok (.getfield 89, 3) := by decide +kernel
theorem dX9_feed_81 : decode cX9_feed 81 = .ok (.ireturn, 1) := by decide +kernel
set_option maxRecDepth 20000 in
theorem ggX9_isSmall_X9_in : GoodIn wsX9_isSmall wsX9_in := goodIn_r _ [6] (by decide +kernel) (by decide +kernel)
set_option maxRecDepth 20000 in
theorem gX9_isSmall_X9_in : GoodIn wsX9_isSmall (va_wsS RX9 69 yX9_in wsX9_in) := goodIn_app (goodIn_of _ (by decide +kernel)) ggX9_isSmall_X9_in
theorem dX9_isSmall_0 : decode cX9_isSmall 0 = .ok (.iload_n 0, 1) := by decide +kernel
theorem dX9_isSmall_1 : decode cX9_isSmall 1 = .ok (.i2l, 1) := by decide +kernel
theorem dX9_isSmall_2 : decode cX9_isSmall 2 = .ok (.ldc2_w 95, 3) := by decide +kernel
theorem dX9_isSmall_5 : decode cX9_isSmall 5 = .ok (.ldc2_w 97, 3) := by decide +kernel
theorem dX9_isSmall_8 : decode cX9_isSmall 8 = .ok (.invokestatic 69, 3) := by decide +kernel
theorem dX9_isSmall_11 : decode cX9_isSmall 11 = .ok (.ireturn, 1) := by decide +kernel
set_option maxRecDepth 20000 in
theorem ggX9_isFigure_X9_in : GoodIn wsX9_isFigure wsX9_in := goodIn_r _ [6] (by decide +kernel) (by decide +kernel)
set_option maxRecDepth 20000 in
theorem gX9_isFigure_X9_in : GoodIn wsX9_isFigure (va_wsS RX9 69 yX9_in wsX9_in) := goodIn_app (goodIn_of _ (by decide +kernel)) ggX9_isFigure_X9_in
theorem dX9_isFigure_0 : decode cX9_isFigure 0 = .ok (.iload_n 0, 1) := by decide +kernel
theorem dX9_isFigure_1 : decode cX9_isFigure 1 = .ok (.i2l, 1) := by decide +kernel
theorem dX9_isFigure_2 : decode cX9_isFigure 2 = .ok (.ldc2_w 99, 3) := by decide +kernel
theorem dX9_isFigure_5 : decode cX9_isFigure 5 = .ok (.ldc2_w 101, 3) := by decide +kernel
theorem dX9_isFigure_8 : decode cX9_isFigure 8 = .ok (.invokestatic 69, 3) := by decide +kernel
theorem dX9_isFigure_11 : decode cX9_isFigure 11 = .ok (.ireturn, 1) := by decide +kernel
set_option maxRecDepth 20000 in
theorem ggX9_look_X9_isSmall : GoodIn wsX9_look wsX9_isSmall := goodIn_r _ [10, 11, 12, 13, 14, 9, 15] (by decide +kernel) (by decide +kernel)
set_option maxRecDepth 20000 in
theorem gX9_look_X9_isSmall : GoodIn wsX9_look (va_wsS RX9 115 yX9_isSmall wsX9_isSmall) := goodIn_app (goodIn_of _ (by decide +kernel)) ggX9_look_X9_isSmall
set_option maxRecDepth 20000 in
theorem ggX9_look_X9_isFigure : GoodIn wsX9_look wsX9_isFigure := goodIn_r _ [18, 19, 20, 13, 14, 9, 15] (by decide +kernel) (by decide +kernel)
set_option maxRecDepth 20000 in
theorem gX9_look_X9_isFigure : GoodIn wsX9_look (va_wsS RX9 118 yX9_isFigure wsX9_isFigure) := goodIn_app (goodIn_of _ (by decide +kernel)) ggX9_look_X9_isFigure
theorem dX9_look_0 : decode cX9_look 0 = .ok (.aload_n 0, 1) := by decide +kernel
theorem dX9_look_1 : decode cX9_look 1 = .ok (.iload_n 1, 1) := by decide +kernel
theorem dX9_look_2 : decode cX9_look 2 = .ok (.putfield 103, 3) := by decide +kernel
theorem dX9_look_5 : decode cX9_look 5 = .ok (.aload_n 0, 1) := by decide +kernel
theorem dX9_look_6 : decode cX9_look 6 = .ok (.getfield 103, 3) := by decide +kernel
theorem dX9_look_9 : decode cX9_look 9 = .ok (.aload_n 0, 1) := by decide +kernel
theorem dX9_look_10 : decode cX9_look 10 = .ok (.getfield 89, 3) := by decide +kernel
theorem dX9_look_13 : decode cX9_look 13 = .ok (.if_icmp .ge 44, 3) := by decide +kernel
theorem dX9_look_16 : decode cX9_look 16 = .ok (.aload_n 0, 1) := by decide +kernel
theorem dX9_look_17 : decode cX9_look 17 = .ok (.getfield 41, 3) := by decide +kernel
theorem dX9_look_20 : decode cX9_look 20 = .ok (.aload_n 0, 1) := by decide +kernel
theorem dX9_look_21 : decode cX9_look 21 = .ok (.getfield 103, 3) := by decide +kernel
theorem dX9_look_24 : decode cX9_look 24 = .ok (.iaload, 1) := by decide +kernel
theorem dX9_look_25 : decode cX9_look 25 = .ok (.bipush 32, 2) := by decide +kernel
theorem dX9_look_27 : decode cX9_look 27 = .ok (.if_icmp .eq 17, 3) := by decide +kernel
theorem dX9_look_30 : decode cX9_look 30 = .ok (.aload_n 0, 1) := by decide +kernel
theorem dX9_look_31 : decode cX9_look 31 = .ok (.getfield 41, 3) := by decide +kernel
theorem dX9_look_34 : decode cX9_look 34 = .ok (.aload_n 0, 1) := by decide +kernel
theorem dX9_look_35 : decode cX9_look 35 = .ok (.getfield 103, 3) := by decide +kernel
theorem dX9_look_38 : decode cX9_look 38 = .ok (.iaload, 1) := by decide +kernel
theorem dX9_look_39 : decode cX9_look 39 = .ok (.bipush 10, 2) := by decide +kernel
theorem dX9_look_41 : decode cX9_look 41 = .ok (.if_icmp .ne 16, 3) := by decide +kernel
theorem dX9_look_44 : decode cX9_look 44 = .ok (.aload_n 0, 1) := by decide +kernel
theorem dX9_look_45 : decode cX9_look 45 = .ok (.dup, 1) := by decide +kernel
theorem dX9_look_46 : decode cX9_look 46 = .ok (.getfield 103, 3) := by decide +kernel
theorem dX9_look_49 : decode cX9_look 49 = .ok (.iconst 1, 1) := by decide +kernel
theorem dX9_look_50 : decode cX9_look 50 = .ok (.iadd, 1) := by decide +kernel
theorem dX9_look_51 : decode cX9_look 51 = .ok (.putfield 103, 3) := by decide +kernel
theorem dX9_look_54 : decode cX9_look 54 = .ok (.goto (-49), 3) := by decide +kernel
theorem dX9_look_57 : decode cX9_look 57 = .ok (.aload_n 0, 1) := by decide +kernel
theorem dX9_look_58 : decode cX9_look 58 = .ok (.iconst 0, 1) := by decide +kernel
theorem dX9_look_59 : decode cX9_look 59 = .ok (.putfield 106, 3) := by decide +kernel
theorem dX9_look_62 : decode cX9_look 62 = .ok (.aload_n 0, 1) := by decide +kernel
theorem dX9_look_63 : decode cX9_look 63 = .ok (.iconst 0, 1) := by decide +kernel
theorem dX9_look_64 : decode cX9_look 64 = .ok (.putfield 109, 3) := by decide +kernel
theorem dX9_look_67 : decode cX9_look 67 = .ok (.aload_n 0, 1) := by decide +kernel
theorem dX9_look_68 : decode cX9_look 68 = .ok (.iconst 0, 1) := by decide +kernel
theorem dX9_look_69 : decode cX9_look 69 = .ok (.putfield 112, 3) := by decide +kernel
theorem dX9_look_72 : decode cX9_look 72 = .ok (.aload_n 0, 1) := by decide +kernel
theorem dX9_look_73 : decode cX9_look 73 = .ok (.getfield 103, 3) := by decide +kernel
theorem dX9_look_76 : decode cX9_look 76 = .ok (.aload_n 0, 1) := by decide +kernel
theorem dX9_look_77 : decode cX9_look 77 = .ok (.getfield 89, 3) := by decide +kernel
theorem dX9_look_80 : decode cX9_look 80 = .ok (.if_icmp .ne 4, 3) := by decide +kernel
theorem dX9_look_83 : decode cX9_look 83 = .ok (.return_, 1) := by decide +kernel
theorem dX9_look_84 : decode cX9_look 84 = .ok (.aload_n 0, 1) := by decide +kernel
theorem dX9_look_85 : decode cX9_look 85 = .ok (.getfield 41, 3) := by decide +kernel
theorem dX9_look_88 : decode cX9_look 88 = .ok (.aload_n 0, 1) := by decide +kernel
theorem dX9_look_89 : decode cX9_look 89 = .ok (.getfield 103, 3) := by decide +kernel
theorem dX9_look_92 : decode cX9_look 92 = .ok (.iaload, 1) := by decide +kernel
theorem dX9_look_93 : decode cX9_look 93 = .ok (.istore_n 2, 1) := by decide +kernel
theorem dX9_look_94 : decode cX9_look 94 = .ok (.aload_n 0, 1) := by decide +kernel
theorem dX9_look_95 : decode cX9_look 95 = .ok (.iload_n 2, 1) := by decide +kernel
theorem dX9_look_96 : decode cX9_look 96 = .ok (.invokestatic 115, 3) := by decide +kernel
theorem dX9_look_99 : decode cX9_look 99 = .ok (.ifCond .eq 7, 3) := by decide +kernel
theorem dX9_look_102 : decode cX9_look 102 = .ok (.iconst 1, 1) := by decide +kernel
theorem dX9_look_103 : decode cX9_look 103 = .ok (.goto 25, 3) := by decide +kernel
theorem dX9_look_106 : decode cX9_look 106 = .ok (.iload_n 2, 1) := by decide +kernel
theorem dX9_look_107 : decode cX9_look 107 = .ok (.invokestatic 118, 3) := by decide +kernel
theorem dX9_look_110 : decode cX9_look 110 = .ok (.ifCond .eq 7, 3) := by decide +kernel
theorem dX9_look_113 : decode cX9_look 113 = .ok (.iconst 2, 1) := by decide +kernel
theorem dX9_look_114 : decode cX9_look 114 = .ok (.goto 14, 3) := by decide +kernel
theorem dX9_look_117 : decode cX9_look 117 = .ok (.iload_n 2, 1) := by decide +kernel
theorem dX9_look_118 : decode cX9_look 118 = .ok (.bipush 59, 2) := by decide +kernel
theorem dX9_look_120 : decode cX9_look 120 = .ok (.if_icmp .ne 7, 3) := by decide +kernel
theorem dX9_look_123 : decode cX9_look 123 = .ok (.iconst 3, 1) := by decide +kernel
theorem dX9_look_124 : decode cX9_look 124 = .ok (.goto 4, 3) := by decide +kernel
theorem dX9_look_127 : decode cX9_look 127 = .ok (.iconst 4, 1) := by decide +kernel
theorem dX9_look_128 : decode cX9_look 128 = .ok (.putfield 109, 3) := by decide +kernel
theorem dX9_look_131 : decode cX9_look 131 = .ok (.aload_n 0, 1) := by decide +kernel
theorem dX9_look_132 : decode cX9_look 132 = .ok (.iconst 1, 1) := by decide +kernel
theorem dX9_look_133 : decode cX9_look 133 = .ok (.putfield 106, 3) := by decide +kernel
theorem dX9_look_136 : decode cX9_look 136 = .ok (.aload_n 0, 1) := by decide +kernel
theorem dX9_look_137 : decode cX9_look 137 = .ok (.getfield 109, 3) := by decide +kernel
theorem dX9_look_140 : decode cX9_look 140 = .ok (.iconst 3, 1) := by decide +kernel
theorem dX9_look_141 : decode cX9_look 141 = .ok (.if_icmp .ge 7, 3) := by decide +kernel
theorem dX9_look_144 : decode cX9_look 144 = .ok (.iconst 1, 1) := by decide +kernel
theorem dX9_look_145 : decode cX9_look 145 = .ok (.goto 4, 3) := by decide +kernel
theorem dX9_look_148 : decode cX9_look 148 = .ok (.iconst 0, 1) := by decide +kernel
theorem dX9_look_149 : decode cX9_look 149 = .ok (.istore_n 3, 1) := by decide +kernel
theorem dX9_look_150 : decode cX9_look 150 = .ok (.iload_n 3, 1) := by decide +kernel
theorem dX9_look_151 : decode cX9_look 151 = .ok (.ifCond .eq 78, 3) := by decide +kernel
theorem dX9_look_154 : decode cX9_look 154 = .ok (.aload_n 0, 1) := by decide +kernel
theorem dX9_look_155 : decode cX9_look 155 = .ok (.getfield 103, 3) := by decide +kernel
theorem dX9_look_158 : decode cX9_look 158 = .ok (.aload_n 0, 1) := by decide +kernel
theorem dX9_look_159 : decode cX9_look 159 = .ok (.getfield 106, 3) := by decide +kernel
theorem dX9_look_162 : decode cX9_look 162 = .ok (.iadd, 1) := by decide +kernel
theorem dX9_look_163 : decode cX9_look 163 = .ok (.aload_n 0, 1) := by decide +kernel
theorem dX9_look_164 : decode cX9_look 164 = .ok (.getfield 89, 3) := by decide +kernel
theorem dX9_look_167 : decode cX9_look 167 = .ok (.if_icmp .ge 62, 3) := by decide +kernel
theorem dX9_look_170 : decode cX9_look 170 = .ok (.aload_n 0, 1) := by decide +kernel
theorem dX9_look_171 : decode cX9_look 171 = .ok (.getfield 41, 3) := by decide +kernel
theorem dX9_look_174 : decode cX9_look 174 = .ok (.aload_n 0, 1) := by decide +kernel
theorem dX9_look_175 : decode cX9_look 175 = .ok (.getfield 103, 3) := by decide +kernel
theorem dX9_look_178 : decode cX9_look 178 = .ok (.aload_n 0, 1) := by decide +kernel
theorem dX9_look_179 : decode cX9_look 179 = .ok (.getfield 106, 3) := by decide +kernel
theorem dX9_look_182 : decode cX9_look 182 = .ok (.iadd, 1) := by decide +kernel
theorem dX9_look_183 : decode cX9_look 183 = .ok (.iaload, 1) := by decide +kernel
theorem dX9_look_184 : decode cX9_look 184 = .ok (.istore 4, 2) := by decide +kernel
theorem dX9_look_186 : decode cX9_look 186 = .ok (.aload_n 0, 1) := by decide +kernel
theorem dX9_look_187 : decode cX9_look 187 = .ok (.getfield 109, 3) := by decide +kernel
theorem dX9_look_190 : decode cX9_look 190 = .ok (.iconst 1, 1) := by decide +kernel
theorem dX9_look_191 : decode cX9_look 191 = .ok (.if_icmp .ne 11, 3) := by decide +kernel
theorem dX9_look_194 : decode cX9_look 194 = .ok (.iload 4, 2) := by decide +kernel
theorem dX9_look_196 : decode cX9_look 196 = .ok (.invokestatic 115, 3) := by decide +kernel
theorem dX9_look_199 : decode cX9_look 199 = .ok (.goto 8, 3) := by decide +kernel
theorem dX9_look_202 : decode cX9_look 202 = .ok (.iload 4, 2) := by decide +kernel
theorem dX9_look_204 : decode cX9_look 204 = .ok (.invokestatic 118, 3) := by decide +kernel
theorem dX9_look_207 : decode cX9_look 207 = .ok (.istore_n 3, 1) := by decide +kernel
theorem dX9_look_208 : decode cX9_look 208 = .ok (.aload_n 0, 1) := by decide +kernel
theorem dX9_look_209 : decode cX9_look 209 = .ok (.dup, 1) := by decide +kernel
theorem dX9_look_210 : decode cX9_look 210 = .ok (.getfield 106, 3) := by decide +kernel
theorem dX9_look_213 : decode cX9_look 213 = .ok (.iload_n 3, 1) := by decide +kernel
theorem dX9_look_214 : decode cX9_look 214 = .ok (.ifCond .eq 7, 3) := by decide +kernel
theorem dX9_look_217 : decode cX9_look 217 = .ok (.iconst 1, 1) := by decide +kernel
theorem dX9_look_218 : decode cX9_look 218 = .ok (.goto 4, 3) := by decide +kernel
theorem dX9_look_221 : decode cX9_look 221 = .ok (.iconst 0, 1) := by decide +kernel
theorem dX9_look_222 : decode cX9_look 222 = .ok (.iadd, 1) := by decide +kernel
theorem dX9_look_223 : decode cX9_look 223 = .ok (.putfield 106, 3) := by decide +kernel
theorem dX9_look_226 : decode cX9_look 226 = .ok (.goto (-76), 3) := by decide +kernel
theorem dX9_look_229 : decode cX9_look 229 = .ok (.iconst 0, 1) := by decide +kernel
theorem dX9_look_230 : decode cX9_look 230 = .ok (.istore 4, 2) := by decide +kernel
theorem dX9_look_232 : decode cX9_look 232 = .ok (.iload 4, 2) := by decide +kernel
theorem dX9_look_234 : decode cX9_look 234 = .ok (.aload_n 0, 1) := by decide +kernel
theorem dX9_look_235 : decode cX9_look 235 = .ok (.getfield 106, 3) := by decide +kernel
theorem dX9_look_238 : decode cX9_look 238 = .ok (.if_icmp .ge 50, 3) := by decide +kernel
theorem dX9_look_241 : decode cX9_look 241 = .ok (.iload 4, 2) := by decide +kernel
theorem dX9_look_243 : decode cX9_look 243 = .ok (.iconst 3, 1) := by decide +kernel
theorem dX9_look_244 : decode cX9_look 244 = .ok (.if_icmp .ge 44, 3) := by decide +kernel
theorem dX9_look_247 : decode cX9_look 247 = .ok (.aload_n 0, 1) := by decide +kernel
theorem dX9_look_248 : decode cX9_look 248 = .ok (.getfield 109, 3) := by decide +kernel
theorem dX9_look_251 : decode cX9_look 251 = .ok (.iconst 2, 1) := by decide +kernel
theorem dX9_look_252 : decode cX9_look 252 = .ok (.if_icmp .ne 36, 3) := by decide +kernel
theorem dX9_look_255 : decode cX9_look 255 = .ok (.aload_n 0, 1) := by decide +kernel
theorem dX9_look_256 : decode cX9_look 256 = .ok (.bipush 10, 2) := by decide +kernel
theorem dX9_look_258 : decode cX9_look 258 = .ok (.aload_n 0, 1) := by decide +kernel
theorem dX9_look_259 : decode cX9_look 259 = .ok (.getfield 112, 3) := by decide +kernel
theorem dX9_look_262 : decode cX9_look 262 = .ok (.imul, 1) := by decide +kernel
theorem dX9_look_263 : decode cX9_look 263 = .ok (.aload_n 0, 1) := by decide +kernel
theorem dX9_look_264 : decode cX9_look 264 = .ok (.getfield 41, 3) := by decide +kernel
theorem dX9_look_267 : decode cX9_look 267 = .ok (.aload_n 0, 1) := by decide +kernel
theorem dX9_look_268 : decode cX9_look 268 = .ok (.getfield 103, 3) := by decide +kernel
theorem dX9_look_271 : decode cX9_look 271 = .ok (.iload 4, 2) := by decide +kernel
theorem dX9_look_273 : decode cX9_look 273 = .ok (.iadd, 1) := by decide +kernel
theorem dX9_look_274 : decode cX9_look 274 = .ok (.iaload, 1) := by decide +kernel
theorem dX9_look_275 : decode cX9_look 275 = .ok (.iadd, 1) := by decide +kernel
theorem dX9_look_276 : decode cX9_look 276 = .ok (.bipush 48, 2) := by decide +kernel
theorem dX9_look_278 : decode cX9_look 278 = .ok (.isub, 1) := by decide +kernel
theorem dX9_look_279 : decode cX9_look 279 = .ok (.putfield 112, 3) := by decide +kernel
theorem dX9_look_282 : decode cX9_look 282 = .ok (.iinc 4 1, 3) := by decide +kernel
theorem dX9_look_285 : decode cX9_look 285 = .ok (.goto (-53), 3) := by decide +kernel
theorem dX9_look_288 : decode cX9_look 288 = .ok (.aload_n 0, 1) := by decide +kernel
theorem dX9_look_289 : decode cX9_look 289 = .ok (.aload_n 0, 1) := by decide +kernel
theorem dX9_look_290 : decode cX9_look 290 = .ok (.getfield 109, 3) := by decide +kernel
theorem dX9_look_293 : decode cX9_look 293 = .ok (.iconst 2, 1) := by decide +kernel
theorem dX9_look_294 : decode cX9_look 294 = .ok (.if_icmp .ne 15, 3) := by decide +kernel
theorem dX9_look_297 : decode cX9_look 297 = .ok (.aload_n 0, 1) := by decide +kernel
theorem dX9_look_298 : decode cX9_look 298 = .ok (.getfield 106, 3) := by decide +kernel
theorem dX9_look_301 : decode cX9_look 301 = .ok (.iconst 3, 1) := by decide +kernel
theorem dX9_look_302 : decode cX9_look 302 = .ok (.if_icmp .le 7, 3) := by decide +kernel
theorem dX9_look_305 : decode cX9_look 305 = .ok (.iconst 4, 1) := by decide +kernel
theorem dX9_look_306 : decode cX9_look 306 = .ok (.goto 7, 3) := by decide +kernel
theorem dX9_look_309 : decode cX9_look 309 = .ok (.aload_n 0, 1) := by decide +kernel
theorem dX9_look_310 : decode cX9_look 310 = .ok (.getfield 109, 3) := by decide +kernel
theorem dX9_look_313 : decode cX9_look 313 = .ok (.putfield 109, 3) := by decide +kernel
theorem dX9_look_316 : decode cX9_look 316 = .ok (.return_, 1) := by decide +kernel
set_option maxRecDepth 20000 in
theorem ggX9_goOn_X9_look : GoodIn wsX9_goOn wsX9_look := goodIn_r _ [7, 1, 8, 9, 2, 10, 11, 12, 13, 6, 14, 15, 16, 17, 18, 19, 20, 21, 22, 23, 24, 25, 26, 27, 28, 29, 30, 31, 32, 33, 34, 35, 36, 37, 38, 39, 40, 41, 42, 43, 44, 45, 46, 47, 48, 49, 50, 51, 52, 53, 54, 55] (by decide +kernel) (by decide +kernel)
set_option maxRecDepth 20000 in
theorem gX9_goOn_X9_look : GoodIn wsX9_goOn (wsV RX9 121 RX9 yX9_look wsX9_look) := goodIn_app (goodIn_of _ (by decide +kernel)) ggX9_goOn_X9_look
theorem dX9_goOn_0 : decode cX9_goOn 0 = .ok (.aload_n 0, 1) := by decide +kernel
theorem dX9_goOn_1 : decode cX9_goOn 1 = .ok (.aload_n 0, 1) := by decide +kernel
theorem dX9_goOn_2 : decode cX9_goOn 2 = .ok (.getfield 103, 3) := by decide +kernel
theorem dX9_goOn_5 : decode cX9_goOn 5 = .ok (.aload_n 0, 1) := by decide +kernel
theorem dX9_goOn_6 : decode cX9_goOn 6 = .ok (.getfield 106, 3) := by decide +kernel
theorem dX9_goOn_9 : decode cX9_goOn 9 = .ok (.iadd, 1) := by decide +kernel
theorem dX9_goOn_10 : decode cX9_goOn 10 = .ok (.invokevirtual 121, 3) := by decide +kernel
theorem dX9_goOn_13 : decode cX9_goOn 13 = .ok (.return_, 1) := by decide +kernel
theorem dX9_isName_0 : decode cX9_isName 0 = .ok (.aload_n 0, 1) := by decide +kernel
theorem dX9_isName_1 : decode cX9_isName 1 = .ok (.getfield 109, 3) := by decide +kernel
theorem dX9_isName_4 : decode cX9_isName 4 = .ok (.iconst 1, 1) := by decide +kernel
theorem dX9_isName_5 : decode cX9_isName 5 = .ok (.if_icmp .ne 15, 3) := by decide +kernel
theorem dX9_isName_8 : decode cX9_isName 8 = .ok (.aload_n 0, 1) := by decide +kernel
theorem dX9_isName_9 : decode cX9_isName 9 = .ok (.getfield 106, 3) := by decide +kernel
theorem dX9_isName_12 : decode cX9_isName 12 = .ok (.iload_n 3, 1) := by decide +kernel
theorem dX9_isName_13 : decode cX9_isName 13 = .ok (.if_icmp .ne 7, 3) := by decide +kernel
theorem dX9_isName_16 : decode cX9_isName 16 = .ok (.iconst 1, 1) := by decide +kernel
theorem dX9_isName_17 : decode cX9_isName 17 = .ok (.goto 4, 3) := by decide +kernel
theorem dX9_isName_20 : decode cX9_isName 20 = .ok (.iconst 0, 1) := by decide +kernel
theorem dX9_isName_21 : decode cX9_isName 21 = .ok (.istore 4, 2) := by decide +kernel
theorem dX9_isName_23 : decode cX9_isName 23 = .ok (.lload_n 1, 1) := by decide +kernel
theorem dX9_isName_24 : decode cX9_isName 24 = .ok (.lstore 5, 2) := by decide +kernel
theorem dX9_isName_26 : decode cX9_isName 26 = .ok (.iload_n 3, 1) := by decide +kernel
theorem dX9_isName_27 : decode cX9_isName 27 = .ok (.iconst 1, 1) := by decide +kernel
theorem dX9_isName_28 : decode cX9_isName 28 = .ok (.isub, 1) := by decide +kernel
theorem dX9_isName_29 : decode cX9_isName 29 = .ok (.istore 7, 2) := by decide +kernel
theorem dX9_isName_31 : decode cX9_isName 31 = .ok (.iload 7, 2) := by decide +kernel
theorem dX9_isName_33 : decode cX9_isName 33 = .ok (.ifCond .lt 52, 3) := by decide +kernel
theorem dX9_isName_36 : decode cX9_isName 36 = .ok (.iload 4, 2) := by decide +kernel
theorem dX9_isName_38 : decode cX9_isName 38 = .ok (.ifCond .eq 47, 3) := by decide +kernel
theorem dX9_isName_41 : decode cX9_isName 41 = .ok (.aload_n 0, 1) := by decide +kernel
theorem dX9_isName_42 : decode cX9_isName 42 = .ok (.getfield 41, 3) := by decide +kernel
theorem dX9_isName_45 : decode cX9_isName 45 = .ok (.aload_n 0, 1) := by decide +kernel
theorem dX9_isName_46 : decode cX9_isName 46 = .ok (.getfield 103, 3) := by decide +kernel
theorem dX9_isName_49 : decode cX9_isName 49 = .ok (.iload 7, 2) := by decide +kernel
theorem dX9_isName_51 : decode cX9_isName 51 = .ok (.iadd, 1) := by decide +kernel
theorem dX9_isName_52 : decode cX9_isName 52 = .ok (.iaload, 1) := by decide +kernel
theorem dX9_isName_53 : decode cX9_isName 53 = .ok (.bipush 96, 2) := by decide +kernel
theorem dX9_isName_55 : decode cX9_isName 55 = .ok (.lload 5, 2) := by decide +kernel
theorem dX9_isName_57 : decode cX9_isName 57 = .ok (.ldc2_w 125, 3) := by decide +kernel
theorem dX9_isName_60 : decode cX9_isName 60 = .ok (.land, 1) := by decide +kernel
theorem dX9_isName_61 : decode cX9_isName 61 = .ok (.l2i, 1) := by decide +kernel
theorem dX9_isName_62 : decode cX9_isName 62 = .ok (.iadd, 1) := by decide +kernel
theorem dX9_isName_63 : decode cX9_isName 63 = .ok (.if_icmp .ne 7, 3) := by decide +kernel
theorem dX9_isName_66 : decode cX9_isName 66 = .ok (.iconst 1, 1) := by decide +kernel
theorem dX9_isName_67 : decode cX9_isName 67 = .ok (.goto 4, 3) := by decide +kernel
theorem dX9_isName_70 : decode cX9_isName 70 = .ok (.iconst 0, 1) := by decide +kernel
theorem dX9_isName_71 : decode cX9_isName 71 = .ok (.istore 4, 2) := by decide +kernel
theorem dX9_isName_73 : decode cX9_isName 73 = .ok (.lload 5, 2) := by decide +kernel
theorem dX9_isName_75 : decode cX9_isName 75 = .ok (.iconst 5, 1) := by decide +kernel
theorem dX9_isName_76 : decode cX9_isName 76 = .ok (.lshr, 1) := by decide +kernel
theorem dX9_isName_77 : decode cX9_isName 77 = .ok (.lstore 5, 2) := by decide +kernel
theorem dX9_isName_79 : decode cX9_isName 79 = .ok (.iinc 7 (-1), 3) := by decide +kernel
theorem dX9_isName_82 : decode cX9_isName 82 = .ok (.goto (-51), 3) := by decide +kernel
theorem dX9_isName_85 : decode cX9_isName 85 = .ok (.iload 4, 2) := by decide +kernel
theorem dX9_isName_87 : decode cX9_isName 87 = .ok (.ireturn, 1) := by decide +kernel
theorem dX9_letters_0 : decode cX9_letters 0 = .ok (.iload_n 0, 1) := by decide +kernel
theorem dX9_letters_1 : decode cX9_letters 1 = .ok (.i2l, 1) := by decide +kernel
theorem dX9_letters_2 : decode cX9_letters 2 = .ok (.ldc2_w 127, 3) := by decide +kernel
theorem dX9_letters_5 : decode cX9_letters 5 = .ok (.lsub, 1) := by decide +kernel
theorem dX9_letters_6 : decode cX9_letters 6 = .ok (.iconst 5, 1) := by decide +kernel
theorem dX9_letters_7 : decode cX9_letters 7 = .ok (.lshl, 1) := by decide +kernel
theorem dX9_letters_8 : decode cX9_letters 8 = .ok (.iload_n 1, 1) := by decide +kernel
theorem dX9_letters_9 : decode cX9_letters 9 = .ok (.i2l, 1) := by decide +kernel
theorem dX9_letters_10 : decode cX9_letters 10 = .ok (.ldc2_w 127, 3) := by decide +kernel
theorem dX9_letters_13 : decode cX9_letters 13 = .ok (.lsub, 1) := by decide +kernel
theorem dX9_letters_14 : decode cX9_letters 14 = .ok (.lor, 1) := by decide +kernel
theorem dX9_letters_15 : decode cX9_letters 15 = .ok (.iconst 5, 1) := by decide +kernel
theorem dX9_letters_16 : decode cX9_letters 16 = .ok (.lshl, 1) := by decide +kernel
theorem dX9_letters_17 : decode cX9_letters 17 = .ok (.iload_n 2, 1) := by decide +kernel
theorem dX9_letters_18 : decode cX9_letters 18 = .ok (.i2l, 1) := by decide +kernel
theorem dX9_letters_19 : decode cX9_letters 19 = .ok (.ldc2_w 127, 3) := by decide +kernel
theorem dX9_letters_22 : decode cX9_letters 22 = .ok (.lsub, 1) := by decide +kernel
theorem dX9_letters_23 : decode cX9_letters 23 = .ok (.lor, 1) := by decide +kernel
theorem dX9_letters_24 : decode cX9_letters 24 = .ok (.iconst 5, 1) := by decide +kernel
theorem dX9_letters_25 : decode cX9_letters 25 = .ok (.lshl, 1) := by decide +kernel
theorem dX9_letters_26 : decode cX9_letters 26 = .ok (.iload_n 3, 1) := by decide +kernel
theorem dX9_letters_27 : decode cX9_letters 27 = .ok (.i2l, 1) := by decide +kernel
theorem dX9_letters_28 : decode cX9_letters 28 = .ok (.ldc2_w 127, 3) := by decide +kernel
theorem dX9_letters_31 : decode cX9_letters 31 = .ok (.lsub, 1) := by decide +kernel
theorem dX9_letters_32 : decode cX9_letters 32 = .ok (.lor, 1) := by decide +kernel
theorem dX9_letters_33 : decode cX9_letters 33 = .ok (.lreturn, 1) := by decide +kernel
set_option maxRecDepth 20000 in
theorem ggX9_sortOf_X9_isName : GoodIn wsX9_sortOf wsX9_isName := goodIn_r _ [13, 14, 15, 16, 17, 18, 23, 24, 25, 26, 27, 28, 29, 30, 31, 32, 33, 34, 35, 36, 37, 38, 39, 40, 41, 42, 43, 44, 45, 46, 47, 48, 49, 50, 51, 52, 53] (by decide +kernel) (by decide +kernel)
set_option maxRecDepth 20000 in
theorem gX9_sortOf_X9_isName : GoodIn wsX9_sortOf (wsV RX9 131 RX9 yX9_isName wsX9_isName) := goodIn_app (goodIn_of _ (by decide +kernel)) ggX9_sortOf_X9_isName
set_option maxRecDepth 20000 in
theorem ggX9_sortOf_X9_letters : GoodIn wsX9_sortOf wsX9_letters := goodIn_r _ [21, 22] (by decide +kernel) (by decide +kernel)
set_option maxRecDepth 20000 in
theorem gX9_sortOf_X9_letters : GoodIn wsX9_sortOf (va_wsS RX9 137 yX9_letters wsX9_letters) := goodIn_app (goodIn_of _ (by decide +kernel)) ggX9_sortOf_X9_letters
theorem dX9_sortOf_0 : decode cX9_sortOf 0 = .ok (.aload_n 0, 1) := by decide +kernel
theorem dX9_sortOf_1 : decode cX9_sortOf 1 = .ok (.ldc2_w 129, 3) := by decide +kernel
theorem dX9_sortOf_4 : decode cX9_sortOf 4 = .ok (.iconst 3, 1) := by decide +kernel
theorem dX9_sortOf_5 : decode cX9_sortOf 5 = .ok (.invokevirtual 131, 3) := by decide +kernel
theorem dX9_sortOf_8 : decode cX9_sortOf 8 = .ok (.ifCond .eq 5, 3) := by decide +kernel
theorem dX9_sortOf_11 : decode cX9_sortOf 11 = .ok (.iconst 1, 1) := by decide +kernel
theorem dX9_sortOf_12 : decode cX9_sortOf 12 = .ok (.ireturn, 1) := by decide +kernel
theorem dX9_sortOf_13 : decode cX9_sortOf 13 = .ok (.aload_n 0, 1) := by decide +kernel
theorem dX9_sortOf_14 : decode cX9_sortOf 14 = .ok (.ldc2_w 135, 3) := by decide +kernel
theorem dX9_sortOf_17 : decode cX9_sortOf 17 = .ok (.iconst 3, 1) := by decide +kernel
theorem dX9_sortOf_18 : decode cX9_sortOf 18 = .ok (.invokevirtual 131, 3) := by decide +kernel
theorem dX9_sortOf_21 : decode cX9_sortOf 21 = .ok (.ifCond .eq 5, 3) := by decide +kernel
theorem dX9_sortOf_24 : decode cX9_sortOf 24 = .ok (.iconst 5, 1) := by decide +kernel
theorem dX9_sortOf_25 : decode cX9_sortOf 25 = .ok (.ireturn, 1) := by decide +kernel
theorem dX9_sortOf_26 : decode cX9_sortOf 26 = .ok (.aload_n 0, 1) := by decide +kernel
theorem dX9_sortOf_27 : decode cX9_sortOf 27 = .ok (.bipush 115, 2) := by decide +kernel
theorem dX9_sortOf_29 : decode cX9_sortOf 29 = .ok (.bipush 116, 2) := by decide +kernel
theorem dX9_sortOf_31 : decode cX9_sortOf 31 = .ok (.bipush 101, 2) := by decide +kernel
theorem dX9_sortOf_33 : decode cX9_sortOf 33 = .ok (.bipush 97, 2) := by decide +kernel
theorem dX9_sortOf_35 : decode cX9_sortOf 35 = .ok (.invokestatic 137, 3) := by decide +kernel
theorem dX9_sortOf_38 : decode cX9_sortOf 38 = .ok (.bipush 10, 2) := by decide +kernel
theorem dX9_sortOf_40 : decode cX9_sortOf 40 = .ok (.lshl, 1) := by decide +kernel
theorem dX9_sortOf_41 : decode cX9_sortOf 41 = .ok (.ldc2_w 141, 3) := by decide +kernel
theorem dX9_sortOf_44 : decode cX9_sortOf 44 = .ok (.lor, 1) := by decide +kernel
theorem dX9_sortOf_45 : decode cX9_sortOf 45 = .ok (.ldc2_w 143, 3) := by decide +kernel
theorem dX9_sortOf_48 : decode cX9_sortOf 48 = .ok (.lor, 1) := by decide +kernel
theorem dX9_sortOf_49 : decode cX9_sortOf 49 = .ok (.bipush 6, 2) := by decide +kernel
theorem dX9_sortOf_51 : decode cX9_sortOf 51 = .ok (.invokevirtual 131, 3) := by decide +kernel
theorem dX9_sortOf_54 : decode cX9_sortOf 54 = .ok (.ifCond .eq 5, 3) := by decide +kernel
theorem dX9_sortOf_57 : decode cX9_sortOf 57 = .ok (.iconst 2, 1) := by decide +kernel
theorem dX9_sortOf_58 : decode cX9_sortOf 58 = .ok (.ireturn, 1) := by decide +kernel
theorem dX9_sortOf_59 : decode cX9_sortOf 59 = .ok (.aload_n 0, 1) := by decide +kernel
theorem dX9_sortOf_60 : decode cX9_sortOf 60 = .ok (.bipush 109, 2) := by decide +kernel
theorem dX9_sortOf_62 : decode cX9_sortOf 62 = .ok (.bipush 105, 2) := by decide +kernel
theorem dX9_sortOf_64 : decode cX9_sortOf 64 = .ok (.bipush 114, 2) := by decide +kernel
theorem dX9_sortOf_66 : decode cX9_sortOf 66 = .ok (.bipush 114, 2) := by decide +kernel
theorem dX9_sortOf_68 : decode cX9_sortOf 68 = .ok (.invokestatic 137, 3) := by decide +kernel
theorem dX9_sortOf_71 : decode cX9_sortOf 71 = .ok (.bipush 10, 2) := by decide +kernel
theorem dX9_sortOf_73 : decode cX9_sortOf 73 = .ok (.lshl, 1) := by decide +kernel
theorem dX9_sortOf_74 : decode cX9_sortOf 74 = .ok (.ldc2_w 145, 3) := by decide +kernel
theorem dX9_sortOf_77 : decode cX9_sortOf 77 = .ok (.lor, 1) := by decide +kernel
theorem dX9_sortOf_78 : decode cX9_sortOf 78 = .ok (.ldc2_w 147, 3) := by decide +kernel
theorem dX9_sortOf_81 : decode cX9_sortOf 81 = .ok (.lor, 1) := by decide +kernel
theorem dX9_sortOf_82 : decode cX9_sortOf 82 = .ok (.bipush 6, 2) := by decide +kernel
theorem dX9_sortOf_84 : decode cX9_sortOf 84 = .ok (.invokevirtual 131, 3) := by decide +kernel
theorem dX9_sortOf_87 : decode cX9_sortOf 87 = .ok (.ifCond .eq 5, 3) := by decide +kernel
theorem dX9_sortOf_90 : decode cX9_sortOf 90 = .ok (.iconst 4, 1) := by decide +kernel
theorem dX9_sortOf_91 : decode cX9_sortOf 91 = .ok (.ireturn, 1) := by decide +kernel
theorem dX9_sortOf_92 : decode cX9_sortOf 92 = .ok (.aload_n 0, 1) := by decide +kernel
theorem dX9_sortOf_93 : decode cX9_sortOf 93 = .ok (.bipush 116, 2) := by decide +kernel
theorem dX9_sortOf_95 : decode cX9_sortOf 95 = .ok (.bipush 101, 2) := by decide +kernel
theorem dX9_sortOf_97 : decode cX9_sortOf 97 = .ok (.bipush 97, 2) := by decide +kernel
theorem dX9_sortOf_99 : decode cX9_sortOf 99 = .ok (.bipush 99, 2) := by decide +kernel
theorem dX9_sortOf_101 : decode cX9_sortOf 101 = .ok (.invokestatic 137, 3) := by decide +kernel
theorem dX9_sortOf_104 : decode cX9_sortOf 104 = .ok (.bipush 15, 2) := by decide +kernel
theorem dX9_sortOf_106 : decode cX9_sortOf 106 = .ok (.lshl, 1) := by decide +kernel
theorem dX9_sortOf_107 : decode cX9_sortOf 107 = .ok (.ldc2_w 149, 3) := by decide +kernel
theorem dX9_sortOf_110 : decode cX9_sortOf 110 = .ok (.lor, 1) := by decide +kernel
theorem dX9_sortOf_111 : decode cX9_sortOf 111 = .ok (.ldc2_w 151, 3) := by decide +kernel
theorem dX9_sortOf_114 : decode cX9_sortOf 114 = .ok (.lor, 1) := by decide +kernel
theorem dX9_sortOf_115 : decode cX9_sortOf 115 = .ok (.ldc2_w 147, 3) := by decide +kernel
theorem dX9_sortOf_118 : decode cX9_sortOf 118 = .ok (.lor, 1) := by decide +kernel
theorem dX9_sortOf_119 : decode cX9_sortOf 119 = .ok (.bipush 7, 2) := by decide +kernel
theorem dX9_sortOf_121 : decode cX9_sortOf 121 = .ok (.invokevirtual 131, 3) := by decide +kernel
theorem dX9_sortOf_124 : decode cX9_sortOf 124 = .ok (.ifCond .eq 7, 3) := by decide +kernel
theorem dX9_sortOf_127 : decode cX9_sortOf 127 = .ok (.iconst 3, 1) := by decide +kernel
theorem dX9_sortOf_128 : decode cX9_sortOf 128 = .ok (.goto 4, 3) := by decide +kernel
theorem dX9_sortOf_131 : decode cX9_sortOf 131 = .ok (.iconst 0, 1) := by decide +kernel
theorem dX9_sortOf_132 : decode cX9_sortOf 132 = .ok (.ireturn, 1) := by decide +kernel
set_option maxRecDepth 20000 in
theorem ggX9_isPlayerWord_X9_letters : GoodIn wsX9_isPlayerWord wsX9_letters := goodIn_r _ [6, 7] (by decide +kernel) (by decide +kernel)
set_option maxRecDepth 20000 in
theorem gX9_isPlayerWord_X9_letters : GoodIn wsX9_isPlayerWord (va_wsS RX9 137 yX9_letters wsX9_letters) := goodIn_app (goodIn_of _ (by decide +kernel)) ggX9_isPlayerWord_X9_letters
set_option maxRecDepth 20000 in
theorem ggX9_isPlayerWord_X9_isName : GoodIn wsX9_isPlayerWord wsX9_isName := goodIn_r _ [11, 12, 13, 14, 15, 16, 17, 18, 19, 20, 21, 22, 23, 24, 25, 26, 27, 28, 29, 30, 31, 32, 33, 34, 35, 36, 37, 38, 39, 40, 41, 42, 43, 44, 45, 46, 47] (by decide +kernel) (by decide +kernel)
set_option maxRecDepth 20000 in
theorem gX9_isPlayerWord_X9_isName : GoodIn wsX9_isPlayerWord (wsV RX9 131 RX9 yX9_isName wsX9_isName) := goodIn_app (goodIn_of _ (by decide +kernel)) ggX9_isPlayerWord_X9_isName
theorem dX9_isPlayerWord_0 : decode cX9_isPlayerWord 0 = .ok (.aload_n 0, 1) := by decide +kernel
theorem dX9_isPlayerWord_1 : decode cX9_isPlayerWord 1 = .ok (.bipush 112, 2) := by decide +kernel
theorem dX9_isPlayerWord_3 : decode cX9_isPlayerWord 3 = .ok (.bipush 108, 2) := by decide +kernel
theorem dX9_isPlayerWord_5 : decode cX9_isPlayerWord 5 = .ok (.bipush 97, 2) := by decide +kernel
theorem dX9_isPlayerWord_7 : decode cX9_isPlayerWord 7 = .ok (.bipush 121, 2) := by decide +kernel
theorem dX9_isPlayerWord_9 : decode cX9_isPlayerWord 9 = .ok (.invokestatic 137, 3) := by decide +kernel
theorem dX9_isPlayerWord_12 : decode cX9_isPlayerWord 12 = .ok (.bipush 10, 2) := by decide +kernel
theorem dX9_isPlayerWord_14 : decode cX9_isPlayerWord 14 = .ok (.lshl, 1) := by decide +kernel
theorem dX9_isPlayerWord_15 : decode cX9_isPlayerWord 15 = .ok (.ldc2_w 151, 3) := by decide +kernel
theorem dX9_isPlayerWord_18 : decode cX9_isPlayerWord 18 = .ok (.lor, 1) := by decide +kernel
theorem dX9_isPlayerWord_19 : decode cX9_isPlayerWord 19 = .ok (.ldc2_w 147, 3) := by decide +kernel
theorem dX9_isPlayerWord_22 : decode cX9_isPlayerWord 22 = .ok (.lor, 1) := by decide +kernel
theorem dX9_isPlayerWord_23 : decode cX9_isPlayerWord 23 = .ok (.bipush 6, 2) := by decide +kernel
theorem dX9_isPlayerWord_25 : decode cX9_isPlayerWord 25 = .ok (.invokevirtual 131, 3) := by decide +kernel
theorem dX9_isPlayerWord_28 : decode cX9_isPlayerWord 28 = .ok (.ireturn, 1) := by decide +kernel
set_option maxRecDepth 20000 in
theorem ggX9_readPlayer_X9_isPlayerWord : GoodIn wsX9_readPlayer wsX9_isPlayerWord := goodIn_r _ [9, 10, 11, 12, 13, 8, 14, 15, 16, 17, 18, 19, 2, 20, 21, 22, 23, 56, 57, 58, 59, 60, 61, 62, 63, 64, 65, 66, 67, 68, 69, 70, 71, 72, 73, 74, 75, 76, 77, 78, 79, 80, 81, 82, 83, 84, 85, 86] (by decide +kernel) (by decide +kernel)
set_option maxRecDepth 20000 in
theorem gX9_readPlayer_X9_isPlayerWord : GoodIn wsX9_readPlayer (wsV RX9 153 RX9 yX9_isPlayerWord wsX9_isPlayerWord) := goodIn_app (goodIn_of _ (by decide +kernel)) ggX9_readPlayer_X9_isPlayerWord
set_option maxRecDepth 20000 in
theorem ggX9_readPlayer_X9_goOn : GoodIn wsX9_readPlayer wsX9_goOn := goodIn_r _ [27, 22, 20, 28, 29, 30, 8, 31, 32, 21, 2, 3, 33, 34, 35, 36, 37, 38, 39, 40, 41, 42, 43, 44, 45, 56, 57, 58, 59, 60, 61, 62, 63, 64, 65, 66, 67, 68, 69, 70, 71, 72, 73, 74, 75, 76, 77, 78, 79, 80, 81, 82, 83, 84, 85, 86] (by decide +kernel) (by decide +kernel)
set_option maxRecDepth 20000 in
theorem gX9_readPlayer_X9_goOn : GoodIn wsX9_readPlayer (wsV RX9 157 RX9 yX9_goOn wsX9_goOn) := goodIn_app (goodIn_of _ (by decide +kernel)) ggX9_readPlayer_X9_goOn
set_option maxRecDepth 20000 in
theorem ggX9_readPlayer_X9_sortOf : GoodIn wsX9_readPlayer wsX9_sortOf := goodIn_r _ [49, 50, 51, 52, 53, 54, 11, 55, 10, 16, 17, 18, 8, 19, 2, 20, 21, 22, 23, 12, 13, 14, 15, 56, 57, 58, 59, 60, 61, 62, 63, 64, 65, 66, 67, 68, 69, 70, 71, 72, 73, 74, 75, 76, 77, 78, 79, 80, 81, 82, 83, 84, 85, 86] (by decide +kernel) (by decide +kernel)
set_option maxRecDepth 20000 in
theorem gX9_readPlayer_X9_sortOf : GoodIn wsX9_readPlayer (wsV RX9 160 RX9 yX9_sortOf wsX9_sortOf) := goodIn_app (goodIn_of _ (by decide +kernel)) ggX9_readPlayer_X9_sortOf
theorem dX9_readPlayer_0 : decode cX9_readPlayer 0 = .ok (.aload_n 0, 1) := by decide +kernel
theorem dX9_readPlayer_1 : decode cX9_readPlayer 1 = .ok (.invokevirtual 153, 3) := by decide +kernel
theorem dX9_readPlayer_4 : decode cX9_readPlayer 4 = .ok (.ifCond .ne 5, 3) := by decide +kernel
theorem dX9_readPlayer_7 : decode cX9_readPlayer 7 = .ok (.iconst 1, 1) := by decide +kernel
theorem dX9_readPlayer_8 : decode cX9_readPlayer 8 = .ok (.ireturn, 1) := by decide +kernel
theorem dX9_readPlayer_9 : decode cX9_readPlayer 9 = .ok (.iload_n 1, 1) := by decide +kernel
theorem dX9_readPlayer_10 : decode cX9_readPlayer 10 = .ok (.bipush 8, 2) := by decide +kernel
theorem dX9_readPlayer_12 : decode cX9_readPlayer 12 = .ok (.if_icmp .ne 5, 3) := by decide +kernel
theorem dX9_readPlayer_15 : decode cX9_readPlayer 15 = .ok (.iconst 3, 1) := by decide +kernel
theorem dX9_readPlayer_16 : decode cX9_readPlayer 16 = .ok (.ireturn, 1) := by decide +kernel
theorem dX9_readPlayer_17 : decode cX9_readPlayer 17 = .ok (.aload_n 0, 1) := by decide +kernel
theorem dX9_readPlayer_18 : decode cX9_readPlayer 18 = .ok (.invokevirtual 157, 3) := by decide +kernel
theorem dX9_readPlayer_21 : decode cX9_readPlayer 21 = .ok (.aload_n 0, 1) := by decide +kernel
theorem dX9_readPlayer_22 : decode cX9_readPlayer 22 = .ok (.getfield 44, 3) := by decide +kernel
theorem dX9_readPlayer_25 : decode cX9_readPlayer 25 = .ok (.iload_n 1, 1) := by decide +kernel
theorem dX9_readPlayer_26 : decode cX9_readPlayer 26 = .ok (.aload_n 0, 1) := by decide +kernel
theorem dX9_readPlayer_27 : decode cX9_readPlayer 27 = .ok (.invokevirtual 160, 3) := by decide +kernel
theorem dX9_readPlayer_30 : decode cX9_readPlayer 30 = .ok (.iastore, 1) := by decide +kernel
theorem dX9_readPlayer_31 : decode cX9_readPlayer 31 = .ok (.aload_n 0, 1) := by decide +kernel
theorem dX9_readPlayer_32 : decode cX9_readPlayer 32 = .ok (.getfield 44, 3) := by decide +kernel
theorem dX9_readPlayer_35 : decode cX9_readPlayer 35 = .ok (.iload_n 1, 1) := by decide +kernel
theorem dX9_readPlayer_36 : decode cX9_readPlayer 36 = .ok (.iaload, 1) := by decide +kernel
theorem dX9_readPlayer_37 : decode cX9_readPlayer 37 = .ok (.ifCond .ne 5, 3) := by decide +kernel
theorem dX9_readPlayer_40 : decode cX9_readPlayer 40 = .ok (.iconst 1, 1) := by decide +kernel
theorem dX9_readPlayer_41 : decode cX9_readPlayer 41 = .ok (.ireturn, 1) := by decide +kernel
theorem dX9_readPlayer_42 : decode cX9_readPlayer 42 = .ok (.aload_n 0, 1) := by decide +kernel
theorem dX9_readPlayer_43 : decode cX9_readPlayer 43 = .ok (.invokevirtual 157, 3) := by decide +kernel
theorem dX9_readPlayer_46 : decode cX9_readPlayer 46 = .ok (.aload_n 0, 1) := by decide +kernel
theorem dX9_readPlayer_47 : decode cX9_readPlayer 47 = .ok (.getfield 109, 3) := by decide +kernel
theorem dX9_readPlayer_50 : decode cX9_readPlayer 50 = .ok (.iconst 2, 1) := by decide +kernel
theorem dX9_readPlayer_51 : decode cX9_readPlayer 51 = .ok (.if_icmp .eq 5, 3) := by decide +kernel
theorem dX9_readPlayer_54 : decode cX9_readPlayer 54 = .ok (.iconst 1, 1) := by decide +kernel
theorem dX9_readPlayer_55 : decode cX9_readPlayer 55 = .ok (.ireturn, 1) := by decide +kernel
theorem dX9_readPlayer_56 : decode cX9_readPlayer 56 = .ok (.aload_n 0, 1) := by decide +kernel
theorem dX9_readPlayer_57 : decode cX9_readPlayer 57 = .ok (.getfield 112, 3) := by decide +kernel
theorem dX9_readPlayer_60 : decode cX9_readPlayer 60 = .ok (.iconst 2, 1) := by decide +kernel
theorem dX9_readPlayer_61 : decode cX9_readPlayer 61 = .ok (.if_icmp .le 5, 3) := by decide +kernel
theorem dX9_readPlayer_64 : decode cX9_readPlayer 64 = .ok (.iconst 2, 1) := by decide +kernel
theorem dX9_readPlayer_65 : decode cX9_readPlayer 65 = .ok (.ireturn, 1) := by decide +kernel
theorem dX9_readPlayer_66 : decode cX9_readPlayer 66 = .ok (.aload_n 0, 1) := by decide +kernel
theorem dX9_readPlayer_67 : decode cX9_readPlayer 67 = .ok (.getfield 47, 3) := by decide +kernel
theorem dX9_readPlayer_70 : decode cX9_readPlayer 70 = .ok (.iload_n 1, 1) := by decide +kernel
theorem dX9_readPlayer_71 : decode cX9_readPlayer 71 = .ok (.aload_n 0, 1) := by decide +kernel
theorem dX9_readPlayer_72 : decode cX9_readPlayer 72 = .ok (.getfield 112, 3) := by decide +kernel
theorem dX9_readPlayer_75 : decode cX9_readPlayer 75 = .ok (.iastore, 1) := by decide +kernel
theorem dX9_readPlayer_76 : decode cX9_readPlayer 76 = .ok (.aload_n 0, 1) := by decide +kernel
theorem dX9_readPlayer_77 : decode cX9_readPlayer 77 = .ok (.invokevirtual 157, 3) := by decide +kernel
theorem dX9_readPlayer_80 : decode cX9_readPlayer 80 = .ok (.aload_n 0, 1) := by decide +kernel
theorem dX9_readPlayer_81 : decode cX9_readPlayer 81 = .ok (.getfield 109, 3) := by decide +kernel
theorem dX9_readPlayer_84 : decode cX9_readPlayer 84 = .ok (.iconst 3, 1) := by decide +kernel
theorem dX9_readPlayer_85 : decode cX9_readPlayer 85 = .ok (.if_icmp .eq 5, 3) := by decide +kernel
theorem dX9_readPlayer_88 : decode cX9_readPlayer 88 = .ok (.iconst 1, 1) := by decide +kernel
theorem dX9_readPlayer_89 : decode cX9_readPlayer 89 = .ok (.ireturn, 1) := by decide +kernel
theorem dX9_readPlayer_90 : decode cX9_readPlayer 90 = .ok (.aload_n 0, 1) := by decide +kernel
theorem dX9_readPlayer_91 : decode cX9_readPlayer 91 = .ok (.invokevirtual 157, 3) := by decide +kernel
theorem dX9_readPlayer_94 : decode cX9_readPlayer 94 = .ok (.iconst 0, 1) := by decide +kernel
theorem dX9_readPlayer_95 : decode cX9_readPlayer 95 = .ok (.ireturn, 1) := by decide +kernel
set_option maxRecDepth 20000 in
theorem ggX9_hall_X9_look : GoodIn wsX9_hall wsX9_look := goodIn_r _ [14, 5, 2, 15, 16, 1, 17, 18, 19, 13, 20, 21, 22, 23, 24, 25, 26, 27, 28, 29, 30, 64, 65, 66, 67, 68, 69, 70, 71, 72, 73, 74, 75, 76, 77, 78, 79, 80, 81, 82, 83, 84, 85, 86, 87, 88, 89, 90, 91, 92, 93, 94] (by decide +kernel) (by decide +kernel)
set_option maxRecDepth 20000 in
theorem gX9_hall_X9_look : GoodIn wsX9_hall (wsV RX9 121 RX9 yX9_look wsX9_look) := goodIn_app (goodIn_of _ (by decide +kernel)) ggX9_hall_X9_look
set_option maxRecDepth 20000 in
theorem ggX9_hall_X9_readPlayer : GoodIn wsX9_hall wsX9_readPlayer := goodIn_r _ [34, 7, 1, 17, 8, 35, 36, 37, 13, 38, 39, 40, 41, 42, 43, 44, 45, 46, 47, 48, 16, 15, 5, 49, 50, 51, 52, 53, 10, 11, 12, 14, 2, 18, 19, 20, 21, 22, 23, 24, 25, 26, 27, 28, 29, 30, 54, 55, 56, 57, 58, 59, 60, 61, 62, 63, 64, 65, 66, 67, 68, 69, 70, 71, 72, 73, 74, 75, 76, 77, 78, 79, 80, 81, 82, 83, 84, 85, 86, 87, 88, 89, 90, 91, 92, 93, 94] (by decide +kernel) (by decide +kernel)
set_option maxRecDepth 20000 in
theorem gX9_hall_X9_readPlayer : GoodIn wsX9_hall (wsV RX9 164 RX9 yX9_readPlayer wsX9_readPlayer) := goodIn_app (goodIn_of _ (by decide +kernel)) ggX9_hall_X9_readPlayer
theorem dX9_hall_0 : decode cX9_hall 0 = .ok (.iconst 0, 1) := by decide +kernel
theorem dX9_hall_1 : decode cX9_hall 1 = .ok (.istore_n 1, 1) := by decide +kernel
theorem dX9_hall_2 : decode cX9_hall 2 = .ok (.iconst 0, 1) := by decide +kernel
theorem dX9_hall_3 : decode cX9_hall 3 = .ok (.istore_n 2, 1) := by decide +kernel
theorem dX9_hall_4 : decode cX9_hall 4 = .ok (.aload_n 0, 1) := by decide +kernel
theorem dX9_hall_5 : decode cX9_hall 5 = .ok (.iconst 0, 1) := by decide +kernel
theorem dX9_hall_6 : decode cX9_hall 6 = .ok (.invokevirtual 121, 3) := by decide +kernel
theorem dX9_hall_9 : decode cX9_hall 9 = .ok (.iload_n 2, 1) := by decide +kernel
theorem dX9_hall_10 : decode cX9_hall 10 = .ok (.ifCond .ne 35, 3) := by decide +kernel
theorem dX9_hall_13 : decode cX9_hall 13 = .ok (.aload_n 0, 1) := by decide +kernel
theorem dX9_hall_14 : decode cX9_hall 14 = .ok (.getfield 109, 3) := by decide +kernel
theorem dX9_hall_17 : decode cX9_hall 17 = .ok (.ifCond .ne 7, 3) := by decide +kernel
theorem dX9_hall_20 : decode cX9_hall 20 = .ok (.iload_n 1, 1) := by decide +kernel
theorem dX9_hall_21 : decode cX9_hall 21 = .ok (.ifCond .ne 24, 3) := by decide +kernel
theorem dX9_hall_24 : decode cX9_hall 24 = .ok (.aload_n 0, 1) := by decide +kernel
theorem dX9_hall_25 : decode cX9_hall 25 = .ok (.iload_n 1, 1) := by decide +kernel
theorem dX9_hall_26 : decode cX9_hall 26 = .ok (.invokevirtual 164, 3) := by decide +kernel
theorem dX9_hall_29 : decode cX9_hall 29 = .ok (.istore_n 2, 1) := by decide +kernel
theorem dX9_hall_30 : decode cX9_hall 30 = .ok (.iload_n 1, 1) := by decide +kernel
theorem dX9_hall_31 : decode cX9_hall 31 = .ok (.iload_n 2, 1) := by decide +kernel
theorem dX9_hall_32 : decode cX9_hall 32 = .ok (.ifCond .ne 7, 3) := by decide +kernel
theorem dX9_hall_35 : decode cX9_hall 35 = .ok (.iconst 1, 1) := by decide +kernel
theorem dX9_hall_36 : decode cX9_hall 36 = .ok (.goto 4, 3) := by decide +kernel
theorem dX9_hall_39 : decode cX9_hall 39 = .ok (.iconst 0, 1) := by decide +kernel
theorem dX9_hall_40 : decode cX9_hall 40 = .ok (.iadd, 1) := by decide +kernel
theorem dX9_hall_41 : decode cX9_hall 41 = .ok (.istore_n 1, 1) := by decide +kernel
theorem dX9_hall_42 : decode cX9_hall 42 = .ok (.goto (-33), 3) := by decide +kernel
theorem dX9_hall_45 : decode cX9_hall 45 = .ok (.aload_n 0, 1) := by decide +kernel
theorem dX9_hall_46 : decode cX9_hall 46 = .ok (.iconst 0, 1) := by decide +kernel
theorem dX9_hall_47 : decode cX9_hall 47 = .ok (.putfield 89, 3) := by decide +kernel
theorem dX9_hall_50 : decode cX9_hall 50 = .ok (.iload_n 2, 1) := by decide +kernel
theorem dX9_hall_51 : decode cX9_hall 51 = .ok (.ifCond .eq 16, 3) := by decide +kernel
theorem dX9_hall_54 : decode cX9_hall 54 = .ok (.aload_n 0, 1) := by decide +kernel
theorem dX9_hall_55 : decode cX9_hall 55 = .ok (.iload_n 2, 1) := by decide +kernel
theorem dX9_hall_56 : decode cX9_hall 56 = .ok (.putfield 167, 3) := by decide +kernel
theorem dX9_hall_59 : decode cX9_hall 59 = .ok (.ldc 170, 2) := by decide +kernel
theorem dX9_hall_61 : decode cX9_hall 61 = .ok (.aload_n 0, 1) := by decide +kernel
theorem dX9_hall_62 : decode cX9_hall 62 = .ok (.getfield 103, 3) := by decide +kernel
theorem dX9_hall_65 : decode cX9_hall 65 = .ok (.isub, 1) := by decide +kernel
theorem dX9_hall_66 : decode cX9_hall 66 = .ok (.ireturn, 1) := by decide +kernel
theorem dX9_hall_67 : decode cX9_hall 67 = .ok (.iconst 0, 1) := by decide +kernel
theorem dX9_hall_68 : decode cX9_hall 68 = .ok (.istore_n 3, 1) := by decide +kernel
theorem dX9_hall_69 : decode cX9_hall 69 = .ok (.iload_n 3, 1) := by decide +kernel
theorem dX9_hall_70 : decode cX9_hall 70 = .ok (.bipush 27, 2) := by decide +kernel
theorem dX9_hall_72 : decode cX9_hall 72 = .ok (.if_icmp .ge 16, 3) := by decide +kernel
theorem dX9_hall_75 : decode cX9_hall 75 = .ok (.aload_n 0, 1) := by decide +kernel
theorem dX9_hall_76 : decode cX9_hall 76 = .ok (.getfield 7, 3) := by decide +kernel
theorem dX9_hall_79 : decode cX9_hall 79 = .ok (.iload_n 3, 1) := by decide +kernel
theorem dX9_hall_80 : decode cX9_hall 80 = .ok (.iconst 0, 1) := by decide +kernel
theorem dX9_hall_81 : decode cX9_hall 81 = .ok (.iastore, 1) := by decide +kernel
theorem dX9_hall_82 : decode cX9_hall 82 = .ok (.iinc 3 1, 3) := by decide +kernel
theorem dX9_hall_85 : decode cX9_hall 85 = .ok (.goto (-16), 3) := by decide +kernel
theorem dX9_hall_88 : decode cX9_hall 88 = .ok (.aload_n 0, 1) := by decide +kernel
theorem dX9_hall_89 : decode cX9_hall 89 = .ok (.getfield 7, 3) := by decide +kernel
theorem dX9_hall_92 : decode cX9_hall 92 = .ok (.iconst 0, 1) := by decide +kernel
theorem dX9_hall_93 : decode cX9_hall 93 = .ok (.iload_n 1, 1) := by decide +kernel
theorem dX9_hall_94 : decode cX9_hall 94 = .ok (.iastore, 1) := by decide +kernel
theorem dX9_hall_95 : decode cX9_hall 95 = .ok (.iconst 0, 1) := by decide +kernel
theorem dX9_hall_96 : decode cX9_hall 96 = .ok (.istore_n 3, 1) := by decide +kernel
theorem dX9_hall_97 : decode cX9_hall 97 = .ok (.iload_n 3, 1) := by decide +kernel
theorem dX9_hall_98 : decode cX9_hall 98 = .ok (.iload_n 1, 1) := by decide +kernel
theorem dX9_hall_99 : decode cX9_hall 99 = .ok (.if_icmp .ge 48, 3) := by decide +kernel
theorem dX9_hall_102 : decode cX9_hall 102 = .ok (.aload_n 0, 1) := by decide +kernel
theorem dX9_hall_103 : decode cX9_hall 103 = .ok (.getfield 7, 3) := by decide +kernel
theorem dX9_hall_106 : decode cX9_hall 106 = .ok (.iconst 1, 1) := by decide +kernel
theorem dX9_hall_107 : decode cX9_hall 107 = .ok (.iload_n 3, 1) := by decide +kernel
theorem dX9_hall_108 : decode cX9_hall 108 = .ok (.iadd, 1) := by decide +kernel
theorem dX9_hall_109 : decode cX9_hall 109 = .ok (.aload_n 0, 1) := by decide +kernel
theorem dX9_hall_110 : decode cX9_hall 110 = .ok (.getfield 44, 3) := by decide +kernel
theorem dX9_hall_113 : decode cX9_hall 113 = .ok (.iload_n 3, 1) := by decide +kernel
theorem dX9_hall_114 : decode cX9_hall 114 = .ok (.iaload, 1) := by decide +kernel
theorem dX9_hall_115 : decode cX9_hall 115 = .ok (.iastore, 1) := by decide +kernel
theorem dX9_hall_116 : decode cX9_hall 116 = .ok (.aload_n 0, 1) := by decide +kernel
theorem dX9_hall_117 : decode cX9_hall 117 = .ok (.getfield 7, 3) := by decide +kernel
theorem dX9_hall_120 : decode cX9_hall 120 = .ok (.bipush 9, 2) := by decide +kernel
theorem dX9_hall_122 : decode cX9_hall 122 = .ok (.iload_n 3, 1) := by decide +kernel
theorem dX9_hall_123 : decode cX9_hall 123 = .ok (.iadd, 1) := by decide +kernel
theorem dX9_hall_124 : decode cX9_hall 124 = .ok (.aload_n 0, 1) := by decide +kernel
theorem dX9_hall_125 : decode cX9_hall 125 = .ok (.getfield 47, 3) := by decide +kernel
theorem dX9_hall_128 : decode cX9_hall 128 = .ok (.iload_n 3, 1) := by decide +kernel
theorem dX9_hall_129 : decode cX9_hall 129 = .ok (.iaload, 1) := by decide +kernel
theorem dX9_hall_130 : decode cX9_hall 130 = .ok (.iastore, 1) := by decide +kernel
theorem dX9_hall_131 : decode cX9_hall 131 = .ok (.aload_n 0, 1) := by decide +kernel
theorem dX9_hall_132 : decode cX9_hall 132 = .ok (.getfield 7, 3) := by decide +kernel
theorem dX9_hall_135 : decode cX9_hall 135 = .ok (.bipush 17, 2) := by decide +kernel
theorem dX9_hall_137 : decode cX9_hall 137 = .ok (.iload_n 3, 1) := by decide +kernel
theorem dX9_hall_138 : decode cX9_hall 138 = .ok (.iadd, 1) := by decide +kernel
theorem dX9_hall_139 : decode cX9_hall 139 = .ok (.iload_n 3, 1) := by decide +kernel
theorem dX9_hall_140 : decode cX9_hall 140 = .ok (.iastore, 1) := by decide +kernel
theorem dX9_hall_141 : decode cX9_hall 141 = .ok (.iinc 3 1, 3) := by decide +kernel
theorem dX9_hall_144 : decode cX9_hall 144 = .ok (.goto (-47), 3) := by decide +kernel
theorem dX9_hall_147 : decode cX9_hall 147 = .ok (.aload_n 0, 1) := by decide +kernel
theorem dX9_hall_148 : decode cX9_hall 148 = .ok (.iconst 0, 1) := by decide +kernel
theorem dX9_hall_149 : decode cX9_hall 149 = .ok (.putfield 171, 3) := by decide +kernel
theorem dX9_hall_152 : decode cX9_hall 152 = .ok (.iload_n 1, 1) := by decide +kernel
theorem dX9_hall_153 : decode cX9_hall 153 = .ok (.ireturn, 1) := by decide +kernel
theorem dX9_fault_0 : decode cX9_fault 0 = .ok (.aload_n 0, 1) := by decide +kernel
theorem dX9_fault_1 : decode cX9_fault 1 = .ok (.getfield 167, 3) := by decide +kernel
theorem dX9_fault_4 : decode cX9_fault 4 = .ok (.ireturn, 1) := by decide +kernel
theorem dX9_players_0 : decode cX9_players 0 = .ok (.aload_n 0, 1) := by decide +kernel
theorem dX9_players_1 : decode cX9_players 1 = .ok (.getfield 7, 3) := by decide +kernel
theorem dX9_players_4 : decode cX9_players 4 = .ok (.iconst 0, 1) := by decide +kernel
theorem dX9_players_5 : decode cX9_players 5 = .ok (.iaload, 1) := by decide +kernel
theorem dX9_players_6 : decode cX9_players 6 = .ok (.ireturn, 1) := by decide +kernel
set_option maxRecDepth 20000 in
theorem ggX9_isPlayer_X9_players : GoodIn wsX9_isPlayer wsX9_players := goodIn_r _ [5, 6, 10, 11, 12, 13, 14, 15, 16, 17, 18, 19, 20, 21, 22, 23, 24, 25, 26, 27, 28, 29, 30, 31, 32, 33, 34, 35, 36, 37, 38, 39, 40] (by decide +kernel) (by decide +kernel)
set_option maxRecDepth 20000 in
theorem gX9_isPlayer_X9_players : GoodIn wsX9_isPlayer (wsV RX9 174 RX9 yX9_players wsX9_players) := goodIn_app (goodIn_of _ (by decide +kernel)) ggX9_isPlayer_X9_players
set_option maxRecDepth 20000 in
theorem ggX9_isPlayer_X9_in : GoodIn wsX9_isPlayer wsX9_in := goodIn_r _ [9] (by decide +kernel) (by decide +kernel)
set_option maxRecDepth 20000 in
theorem gX9_isPlayer_X9_in : GoodIn wsX9_isPlayer (va_wsS RX9 69 yX9_in wsX9_in) := goodIn_app (goodIn_of _ (by decide +kernel)) ggX9_isPlayer_X9_in
theorem dX9_isPlayer_0 : decode cX9_isPlayer 0 = .ok (.iload_n 1, 1) := by decide +kernel
theorem dX9_isPlayer_1 : decode cX9_isPlayer 1 = .ok (.i2l, 1) := by decide +kernel
theorem dX9_isPlayer_2 : decode cX9_isPlayer 2 = .ok (.lconst 0, 1) := by decide +kernel
theorem dX9_isPlayer_3 : decode cX9_isPlayer 3 = .ok (.aload_n 0, 1) := by decide +kernel
theorem dX9_isPlayer_4 : decode cX9_isPlayer 4 = .ok (.invokevirtual 174, 3) := by decide +kernel
theorem dX9_isPlayer_7 : decode cX9_isPlayer 7 = .ok (.iconst 1, 1) := by decide +kernel
theorem dX9_isPlayer_8 : decode cX9_isPlayer 8 = .ok (.isub, 1) := by decide +kernel
theorem dX9_isPlayer_9 : decode cX9_isPlayer 9 = .ok (.i2l, 1) := by decide +kernel
theorem dX9_isPlayer_10 : decode cX9_isPlayer 10 = .ok (.invokestatic 69, 3) := by decide +kernel
theorem dX9_isPlayer_13 : decode cX9_isPlayer 13 = .ok (.ireturn, 1) := by decide +kernel
theorem dX9_leads_0 : decode cX9_leads 0 = .ok (.aload_n 0, 1) := by decide +kernel
theorem dX9_leads_1 : decode cX9_leads 1 = .ok (.getfield 7, 3) := by decide +kernel
theorem dX9_leads_4 : decode cX9_leads 4 = .ok (.bipush 17, 2) := by decide +kernel
theorem dX9_leads_6 : decode cX9_leads 6 = .ok (.iload_n 1, 1) := by decide +kernel
theorem dX9_leads_7 : decode cX9_leads 7 = .ok (.iadd, 1) := by decide +kernel
theorem dX9_leads_8 : decode cX9_leads 8 = .ok (.iaload, 1) := by decide +kernel
theorem dX9_leads_9 : decode cX9_leads 9 = .ok (.iload_n 1, 1) := by decide +kernel
theorem dX9_leads_10 : decode cX9_leads 10 = .ok (.if_icmp .ne 7, 3) := by decide +kernel
theorem dX9_leads_13 : decode cX9_leads 13 = .ok (.iconst 1, 1) := by decide +kernel
theorem dX9_leads_14 : decode cX9_leads 14 = .ok (.goto 4, 3) := by decide +kernel
theorem dX9_leads_17 : decode cX9_leads 17 = .ok (.iconst 0, 1) := by decide +kernel
theorem dX9_leads_18 : decode cX9_leads 18 = .ok (.ireturn, 1) := by decide +kernel
set_option maxRecDepth 20000 in
theorem ggX9_sizeOf_X9_players : GoodIn wsX9_sizeOf wsX9_players := goodIn_r _ [6, 1, 7, 8, 9, 10, 11, 12, 13, 14, 15, 16, 17, 18, 19, 20, 21, 22, 23, 24, 25, 26, 27, 28, 29, 30, 31, 32, 33, 34, 35, 36, 37] (by decide +kernel) (by decide +kernel)
set_option maxRecDepth 20000 in
theorem gX9_sizeOf_X9_players : GoodIn wsX9_sizeOf (wsV RX9 174 RX9 yX9_players wsX9_players) := goodIn_app (goodIn_of _ (by decide +kernel)) ggX9_sizeOf_X9_players
theorem dX9_sizeOf_0 : decode cX9_sizeOf 0 = .ok (.iconst 0, 1) := by decide +kernel
theorem dX9_sizeOf_1 : decode cX9_sizeOf 1 = .ok (.istore_n 2, 1) := by decide +kernel
theorem dX9_sizeOf_2 : decode cX9_sizeOf 2 = .ok (.iconst 0, 1) := by decide +kernel
theorem dX9_sizeOf_3 : decode cX9_sizeOf 3 = .ok (.istore_n 3, 1) := by decide +kernel
theorem dX9_sizeOf_4 : decode cX9_sizeOf 4 = .ok (.iload_n 3, 1) := by decide +kernel
theorem dX9_sizeOf_5 : decode cX9_sizeOf 5 = .ok (.aload_n 0, 1) := by decide +kernel
theorem dX9_sizeOf_6 : decode cX9_sizeOf 6 = .ok (.invokevirtual 174, 3) := by decide +kernel
theorem dX9_sizeOf_9 : decode cX9_sizeOf 9 = .ok (.if_icmp .ge 30, 3) := by decide +kernel
theorem dX9_sizeOf_12 : decode cX9_sizeOf 12 = .ok (.iload_n 2, 1) := by decide +kernel
theorem dX9_sizeOf_13 : decode cX9_sizeOf 13 = .ok (.aload_n 0, 1) := by decide +kernel
theorem dX9_sizeOf_14 : decode cX9_sizeOf 14 = .ok (.getfield 7, 3) := by decide +kernel
theorem dX9_sizeOf_17 : decode cX9_sizeOf 17 = .ok (.bipush 17, 2) := by decide +kernel
theorem dX9_sizeOf_19 : decode cX9_sizeOf 19 = .ok (.iload_n 3, 1) := by decide +kernel
theorem dX9_sizeOf_20 : decode cX9_sizeOf 20 = .ok (.iadd, 1) := by decide +kernel
theorem dX9_sizeOf_21 : decode cX9_sizeOf 21 = .ok (.iaload, 1) := by decide +kernel
theorem dX9_sizeOf_22 : decode cX9_sizeOf 22 = .ok (.iload_n 1, 1) := by decide +kernel
theorem dX9_sizeOf_23 : decode cX9_sizeOf 23 = .ok (.if_icmp .ne 7, 3) := by decide +kernel
theorem dX9_sizeOf_26 : decode cX9_sizeOf 26 = .ok (.iconst 1, 1) := by decide +kernel
theorem dX9_sizeOf_27 : decode cX9_sizeOf 27 = .ok (.goto 4, 3) := by decide +kernel
theorem dX9_sizeOf_30 : decode cX9_sizeOf 30 = .ok (.iconst 0, 1) := by decide +kernel
theorem dX9_sizeOf_31 : decode cX9_sizeOf 31 = .ok (.iadd, 1) := by decide +kernel
theorem dX9_sizeOf_32 : decode cX9_sizeOf 32 = .ok (.istore_n 2, 1) := by decide +kernel
theorem dX9_sizeOf_33 : decode cX9_sizeOf 33 = .ok (.iinc 3 1, 3) := by decide +kernel
theorem dX9_sizeOf_36 : decode cX9_sizeOf 36 = .ok (.goto (-32), 3) := by decide +kernel
theorem dX9_sizeOf_39 : decode cX9_sizeOf 39 = .ok (.iload_n 2, 1) := by decide +kernel
theorem dX9_sizeOf_40 : decode cX9_sizeOf 40 = .ok (.ireturn, 1) := by decide +kernel
set_option maxRecDepth 20000 in
theorem ggX9_leaders_X9_players : GoodIn wsX9_leaders wsX9_players := goodIn_r _ [5, 6, 11, 12, 13, 14, 15, 16, 17, 18, 19, 20, 21, 22, 23, 24, 25, 26, 27, 28, 29, 30, 31, 32, 33, 34, 35, 36, 37, 38, 39, 40, 41] (by decide +kernel) (by decide +kernel)
set_option maxRecDepth 20000 in
theorem gX9_leaders_X9_players : GoodIn wsX9_leaders (wsV RX9 174 RX9 yX9_players wsX9_players) := goodIn_app (goodIn_of _ (by decide +kernel)) ggX9_leaders_X9_players
set_option maxRecDepth 20000 in
theorem ggX9_leaders_X9_leads : GoodIn wsX9_leaders wsX9_leads := goodIn_r _ [10, 6, 11, 12, 13, 14, 15, 16, 17, 18, 19, 20, 21, 22, 23, 24, 25, 26, 27, 28, 29, 30, 31, 32, 33, 34, 35, 36, 37, 38, 39, 40, 41] (by decide +kernel) (by decide +kernel)
set_option maxRecDepth 20000 in
theorem gX9_leaders_X9_leads : GoodIn wsX9_leaders (wsV RX9 177 RX9 yX9_leads wsX9_leads) := goodIn_app (goodIn_of _ (by decide +kernel)) ggX9_leaders_X9_leads
theorem dX9_leaders_0 : decode cX9_leaders 0 = .ok (.iconst 0, 1) := by decide +kernel
theorem dX9_leaders_1 : decode cX9_leaders 1 = .ok (.istore_n 1, 1) := by decide +kernel
theorem dX9_leaders_2 : decode cX9_leaders 2 = .ok (.iconst 0, 1) := by decide +kernel
theorem dX9_leaders_3 : decode cX9_leaders 3 = .ok (.istore_n 2, 1) := by decide +kernel
theorem dX9_leaders_4 : decode cX9_leaders 4 = .ok (.iload_n 2, 1) := by decide +kernel
theorem dX9_leaders_5 : decode cX9_leaders 5 = .ok (.aload_n 0, 1) := by decide +kernel
theorem dX9_leaders_6 : decode cX9_leaders 6 = .ok (.invokevirtual 174, 3) := by decide +kernel
theorem dX9_leaders_9 : decode cX9_leaders 9 = .ok (.if_icmp .ge 25, 3) := by decide +kernel
theorem dX9_leaders_12 : decode cX9_leaders 12 = .ok (.iload_n 1, 1) := by decide +kernel
theorem dX9_leaders_13 : decode cX9_leaders 13 = .ok (.aload_n 0, 1) := by decide +kernel
theorem dX9_leaders_14 : decode cX9_leaders 14 = .ok (.iload_n 2, 1) := by decide +kernel
theorem dX9_leaders_15 : decode cX9_leaders 15 = .ok (.invokevirtual 177, 3) := by decide +kernel
theorem dX9_leaders_18 : decode cX9_leaders 18 = .ok (.ifCond .eq 7, 3) := by decide +kernel
theorem dX9_leaders_21 : decode cX9_leaders 21 = .ok (.iconst 1, 1) := by decide +kernel
theorem dX9_leaders_22 : decode cX9_leaders 22 = .ok (.goto 4, 3) := by decide +kernel
theorem dX9_leaders_25 : decode cX9_leaders 25 = .ok (.iconst 0, 1) := by decide +kernel
theorem dX9_leaders_26 : decode cX9_leaders 26 = .ok (.iadd, 1) := by decide +kernel
theorem dX9_leaders_27 : decode cX9_leaders 27 = .ok (.istore_n 1, 1) := by decide +kernel
theorem dX9_leaders_28 : decode cX9_leaders 28 = .ok (.iinc 2 1, 3) := by decide +kernel
theorem dX9_leaders_31 : decode cX9_leaders 31 = .ok (.goto (-27), 3) := by decide +kernel
theorem dX9_leaders_34 : decode cX9_leaders 34 = .ok (.iload_n 1, 1) := by decide +kernel
theorem dX9_leaders_35 : decode cX9_leaders 35 = .ok (.ireturn, 1) := by decide +kernel
theorem dX9_next_0 : decode cX9_next 0 = .ok (.iload_n 0, 1) := by decide +kernel
theorem dX9_next_1 : decode cX9_next 1 = .ok (.iconst 1, 1) := by decide +kernel
theorem dX9_next_2 : decode cX9_next 2 = .ok (.iadd, 1) := by decide +kernel
theorem dX9_next_3 : decode cX9_next 3 = .ok (.iconst 3, 1) := by decide +kernel
theorem dX9_next_4 : decode cX9_next 4 = .ok (.irem, 1) := by decide +kernel
theorem dX9_next_5 : decode cX9_next 5 = .ok (.ireturn, 1) := by decide +kernel
set_option maxRecDepth 20000 in
theorem ggX9_behindTie_X9_next : GoodIn wsX9_behindTie wsX9_next := goodIn_r _ [5] (by decide +kernel) (by decide +kernel)
set_option maxRecDepth 20000 in
theorem gX9_behindTie_X9_next : GoodIn wsX9_behindTie (va_wsS RX9 180 yX9_next wsX9_next) := goodIn_app (goodIn_of _ (by decide +kernel)) ggX9_behindTie_X9_next
theorem dX9_behindTie_0 : decode cX9_behindTie 0 = .ok (.aload_n 0, 1) := by decide +kernel
theorem dX9_behindTie_1 : decode cX9_behindTie 1 = .ok (.getfield 7, 3) := by decide +kernel
theorem dX9_behindTie_4 : decode cX9_behindTie 4 = .ok (.iconst 1, 1) := by decide +kernel
theorem dX9_behindTie_5 : decode cX9_behindTie 5 = .ok (.iload_n 1, 1) := by decide +kernel
theorem dX9_behindTie_6 : decode cX9_behindTie 6 = .ok (.iadd, 1) := by decide +kernel
theorem dX9_behindTie_7 : decode cX9_behindTie 7 = .ok (.iaload, 1) := by decide +kernel
theorem dX9_behindTie_8 : decode cX9_behindTie 8 = .ok (.istore_n 3, 1) := by decide +kernel
theorem dX9_behindTie_9 : decode cX9_behindTie 9 = .ok (.iload_n 2, 1) := by decide +kernel
theorem dX9_behindTie_10 : decode cX9_behindTie 10 = .ok (.invokestatic 180, 3) := by decide +kernel
theorem dX9_behindTie_13 : decode cX9_behindTie 13 = .ok (.istore 4, 2) := by decide +kernel
theorem dX9_behindTie_15 : decode cX9_behindTie 15 = .ok (.iload_n 3, 1) := by decide +kernel
theorem dX9_behindTie_16 : decode cX9_behindTie 16 = .ok (.iconst 2, 1) := by decide +kernel
theorem dX9_behindTie_17 : decode cX9_behindTie 17 = .ok (.if_icmp .ne 7, 3) := by decide +kernel
theorem dX9_behindTie_20 : decode cX9_behindTie 20 = .ok (.iload_n 2, 1) := by decide +kernel
theorem dX9_behindTie_21 : decode cX9_behindTie 21 = .ok (.goto 20, 3) := by decide +kernel
theorem dX9_behindTie_24 : decode cX9_behindTie 24 = .ok (.iload_n 3, 1) := by decide +kernel
theorem dX9_behindTie_25 : decode cX9_behindTie 25 = .ok (.iconst 3, 1) := by decide +kernel
theorem dX9_behindTie_26 : decode cX9_behindTie 26 = .ok (.if_icmp .ne 13, 3) := by decide +kernel
theorem dX9_behindTie_29 : decode cX9_behindTie 29 = .ok (.iload 4, 2) := by decide +kernel
theorem dX9_behindTie_31 : decode cX9_behindTie 31 = .ok (.iconst 2, 1) := by decide +kernel
theorem dX9_behindTie_32 : decode cX9_behindTie 32 = .ok (.if_icmp .ne 7, 3) := by decide +kernel
theorem dX9_behindTie_35 : decode cX9_behindTie 35 = .ok (.iconst 0, 1) := by decide +kernel
theorem dX9_behindTie_36 : decode cX9_behindTie 36 = .ok (.goto 5, 3) := by decide +kernel
theorem dX9_behindTie_39 : decode cX9_behindTie 39 = .ok (.iload 4, 2) := by decide +kernel
theorem dX9_behindTie_41 : decode cX9_behindTie 41 = .ok (.ireturn, 1) := by decide +kernel
set_option maxRecDepth 20000 in
theorem ggX9_play_X9_next : GoodIn wsX9_play wsX9_next := goodIn_r _ [9] (by decide +kernel) (by decide +kernel)
set_option maxRecDepth 20000 in
theorem gX9_play_X9_next : GoodIn wsX9_play (va_wsS RX9 180 yX9_next wsX9_next) := goodIn_app (goodIn_of _ (by decide +kernel)) ggX9_play_X9_next
set_option maxRecDepth 20000 in
theorem ggX9_play_X9_behindTie : GoodIn wsX9_play wsX9_behindTie := goodIn_r _ [13, 1, 6, 7, 8, 9, 22, 23, 24, 25, 26, 27, 28, 29, 30, 31, 32, 33, 34, 35, 36, 37, 38, 39, 40, 41, 42, 43, 44, 45, 46, 47, 48, 49, 50, 51, 52] (by decide +kernel) (by decide +kernel)
set_option maxRecDepth 20000 in
theorem gX9_play_X9_behindTie : GoodIn wsX9_play (wsV RX9 192 RX9 yX9_behindTie wsX9_behindTie) := goodIn_app (goodIn_of _ (by decide +kernel)) ggX9_play_X9_behindTie
set_option maxRecDepth 20000 in
theorem ggX9_play_X9_sizeOf : GoodIn wsX9_play wsX9_sizeOf := goodIn_r _ [17, 1, 18, 19, 20, 8, 21, 22, 23, 24, 25, 26, 27, 28, 29, 30, 31, 32, 33, 34, 35, 36, 37, 38, 39, 40, 41, 42, 43, 44, 45, 46, 47, 48, 49, 50, 51, 52] (by decide +kernel) (by decide +kernel)
set_option maxRecDepth 20000 in
theorem gX9_play_X9_sizeOf : GoodIn wsX9_play (wsV RX9 196 RX9 yX9_sizeOf wsX9_sizeOf) := goodIn_app (goodIn_of _ (by decide +kernel)) ggX9_play_X9_sizeOf
theorem dX9_play_0 : decode cX9_play 0 = .ok (.aload_n 0, 1) := by decide +kernel
theorem dX9_play_1 : decode cX9_play 1 = .ok (.getfield 7, 3) := by decide +kernel
theorem dX9_play_4 : decode cX9_play 4 = .ok (.bipush 9, 2) := by decide +kernel
theorem dX9_play_6 : decode cX9_play 6 = .ok (.iload_n 1, 1) := by decide +kernel
theorem dX9_play_7 : decode cX9_play 7 = .ok (.iadd, 1) := by decide +kernel
theorem dX9_play_8 : decode cX9_play 8 = .ok (.iaload, 1) := by decide +kernel
theorem dX9_play_9 : decode cX9_play 9 = .ok (.istore_n 3, 1) := by decide +kernel
theorem dX9_play_10 : decode cX9_play 10 = .ok (.aload_n 0, 1) := by decide +kernel
theorem dX9_play_11 : decode cX9_play 11 = .ok (.getfield 7, 3) := by decide +kernel
theorem dX9_play_14 : decode cX9_play 14 = .ok (.bipush 9, 2) := by decide +kernel
theorem dX9_play_16 : decode cX9_play 16 = .ok (.iload_n 2, 1) := by decide +kernel
theorem dX9_play_17 : decode cX9_play 17 = .ok (.iadd, 1) := by decide +kernel
theorem dX9_play_18 : decode cX9_play 18 = .ok (.iaload, 1) := by decide +kernel
theorem dX9_play_19 : decode cX9_play 19 = .ok (.istore 4, 2) := by decide +kernel
theorem dX9_play_21 : decode cX9_play 21 = .ok (.aload_n 0, 1) := by decide +kernel
theorem dX9_play_22 : decode cX9_play 22 = .ok (.aload_n 0, 1) := by decide +kernel
theorem dX9_play_23 : decode cX9_play 23 = .ok (.getfield 7, 3) := by decide +kernel
theorem dX9_play_26 : decode cX9_play 26 = .ok (.iconst 1, 1) := by decide +kernel
theorem dX9_play_27 : decode cX9_play 27 = .ok (.iload_n 1, 1) := by decide +kernel
theorem dX9_play_28 : decode cX9_play 28 = .ok (.iadd, 1) := by decide +kernel
theorem dX9_play_29 : decode cX9_play 29 = .ok (.iaload, 1) := by decide +kernel
theorem dX9_play_30 : decode cX9_play 30 = .ok (.iconst 5, 1) := by decide +kernel
theorem dX9_play_31 : decode cX9_play 31 = .ok (.if_icmp .ne 11, 3) := by decide +kernel
theorem dX9_play_34 : decode cX9_play 34 = .ok (.iload 4, 2) := by decide +kernel
theorem dX9_play_36 : decode cX9_play 36 = .ok (.invokestatic 180, 3) := by decide +kernel
theorem dX9_play_39 : decode cX9_play 39 = .ok (.goto 4, 3) := by decide +kernel
theorem dX9_play_42 : decode cX9_play 42 = .ok (.iload_n 3, 1) := by decide +kernel
theorem dX9_play_43 : decode cX9_play 43 = .ok (.putfield 183, 3) := by decide +kernel
theorem dX9_play_46 : decode cX9_play 46 = .ok (.aload_n 0, 1) := by decide +kernel
theorem dX9_play_47 : decode cX9_play 47 = .ok (.aload_n 0, 1) := by decide +kernel
theorem dX9_play_48 : decode cX9_play 48 = .ok (.getfield 7, 3) := by decide +kernel
theorem dX9_play_51 : decode cX9_play 51 = .ok (.iconst 1, 1) := by decide +kernel
theorem dX9_play_52 : decode cX9_play 52 = .ok (.iload_n 2, 1) := by decide +kernel
theorem dX9_play_53 : decode cX9_play 53 = .ok (.iadd, 1) := by decide +kernel
theorem dX9_play_54 : decode cX9_play 54 = .ok (.iaload, 1) := by decide +kernel
theorem dX9_play_55 : decode cX9_play 55 = .ok (.iconst 5, 1) := by decide +kernel
theorem dX9_play_56 : decode cX9_play 56 = .ok (.if_icmp .ne 10, 3) := by decide +kernel
theorem dX9_play_59 : decode cX9_play 59 = .ok (.iload_n 3, 1) := by decide +kernel
theorem dX9_play_60 : decode cX9_play 60 = .ok (.invokestatic 180, 3) := by decide +kernel
theorem dX9_play_63 : decode cX9_play 63 = .ok (.goto 5, 3) := by decide +kernel
theorem dX9_play_66 : decode cX9_play 66 = .ok (.iload 4, 2) := by decide +kernel
theorem dX9_play_68 : decode cX9_play 68 = .ok (.putfield 186, 3) := by decide +kernel
theorem dX9_play_71 : decode cX9_play 71 = .ok (.aload_n 0, 1) := by decide +kernel
theorem dX9_play_72 : decode cX9_play 72 = .ok (.iconst 1, 1) := by decide +kernel
theorem dX9_play_73 : decode cX9_play 73 = .ok (.putfield 189, 3) := by decide +kernel
theorem dX9_play_76 : decode cX9_play 76 = .ok (.aload_n 0, 1) := by decide +kernel
theorem dX9_play_77 : decode cX9_play 77 = .ok (.getfield 183, 3) := by decide +kernel
theorem dX9_play_80 : decode cX9_play 80 = .ok (.aload_n 0, 1) := by decide +kernel
theorem dX9_play_81 : decode cX9_play 81 = .ok (.getfield 186, 3) := by decide +kernel
theorem dX9_play_84 : decode cX9_play 84 = .ok (.if_icmp .ne 53, 3) := by decide +kernel
theorem dX9_play_87 : decode cX9_play 87 = .ok (.aload_n 0, 1) := by decide +kernel
theorem dX9_play_88 : decode cX9_play 88 = .ok (.getfield 189, 3) := by decide +kernel
theorem dX9_play_91 : decode cX9_play 91 = .ok (.bipush 9, 2) := by decide +kernel
theorem dX9_play_93 : decode cX9_play 93 = .ok (.if_icmp .ge 44, 3) := by decide +kernel
theorem dX9_play_96 : decode cX9_play 96 = .ok (.aload_n 0, 1) := by decide +kernel
theorem dX9_play_97 : decode cX9_play 97 = .ok (.getfield 183, 3) := by decide +kernel
theorem dX9_play_100 : decode cX9_play 100 = .ok (.istore 5, 2) := by decide +kernel
theorem dX9_play_102 : decode cX9_play 102 = .ok (.aload_n 0, 1) := by decide +kernel
theorem dX9_play_103 : decode cX9_play 103 = .ok (.aload_n 0, 1) := by decide +kernel
theorem dX9_play_104 : decode cX9_play 104 = .ok (.iload_n 1, 1) := by decide +kernel
theorem dX9_play_105 : decode cX9_play 105 = .ok (.iload 5, 2) := by decide +kernel
theorem dX9_play_107 : decode cX9_play 107 = .ok (.invokevirtual 192, 3) := by decide +kernel
theorem dX9_play_110 : decode cX9_play 110 = .ok (.putfield 183, 3) := by decide +kernel
theorem dX9_play_113 : decode cX9_play 113 = .ok (.aload_n 0, 1) := by decide +kernel
theorem dX9_play_114 : decode cX9_play 114 = .ok (.aload_n 0, 1) := by decide +kernel
theorem dX9_play_115 : decode cX9_play 115 = .ok (.iload_n 2, 1) := by decide +kernel
theorem dX9_play_116 : decode cX9_play 116 = .ok (.iload 5, 2) := by decide +kernel
theorem dX9_play_118 : decode cX9_play 118 = .ok (.invokevirtual 192, 3) := by decide +kernel
theorem dX9_play_121 : decode cX9_play 121 = .ok (.putfield 186, 3) := by decide +kernel
theorem dX9_play_124 : decode cX9_play 124 = .ok (.aload_n 0, 1) := by decide +kernel
theorem dX9_play_125 : decode cX9_play 125 = .ok (.dup, 1) := by decide +kernel
theorem dX9_play_126 : decode cX9_play 126 = .ok (.getfield 189, 3) := by decide +kernel
theorem dX9_play_129 : decode cX9_play 129 = .ok (.iconst 1, 1) := by decide +kernel
theorem dX9_play_130 : decode cX9_play 130 = .ok (.iadd, 1) := by decide +kernel
theorem dX9_play_131 : decode cX9_play 131 = .ok (.putfield 189, 3) := by decide +kernel
theorem dX9_play_134 : decode cX9_play 134 = .ok (.goto (-58), 3) := by decide +kernel
theorem dX9_play_137 : decode cX9_play 137 = .ok (.iload_n 1, 1) := by decide +kernel
theorem dX9_play_138 : decode cX9_play 138 = .ok (.iload_n 2, 1) := by decide +kernel
theorem dX9_play_139 : decode cX9_play 139 = .ok (.if_icmp .ge 7, 3) := by decide +kernel
theorem dX9_play_142 : decode cX9_play 142 = .ok (.iload_n 1, 1) := by decide +kernel
theorem dX9_play_143 : decode cX9_play 143 = .ok (.goto 4, 3) := by decide +kernel
theorem dX9_play_146 : decode cX9_play 146 = .ok (.iload_n 2, 1) := by decide +kernel
theorem dX9_play_147 : decode cX9_play 147 = .ok (.istore 5, 2) := by decide +kernel
theorem dX9_play_149 : decode cX9_play 149 = .ok (.aload_n 0, 1) := by decide +kernel
theorem dX9_play_150 : decode cX9_play 150 = .ok (.iload_n 1, 1) := by decide +kernel
theorem dX9_play_151 : decode cX9_play 151 = .ok (.invokevirtual 196, 3) := by decide +kernel
theorem dX9_play_154 : decode cX9_play 154 = .ok (.aload_n 0, 1) := by decide +kernel
theorem dX9_play_155 : decode cX9_play 155 = .ok (.iload_n 2, 1) := by decide +kernel
theorem dX9_play_156 : decode cX9_play 156 = .ok (.invokevirtual 196, 3) := by decide +kernel
theorem dX9_play_159 : decode cX9_play 159 = .ok (.if_icmp .le 7, 3) := by decide +kernel
theorem dX9_play_162 : decode cX9_play 162 = .ok (.iload_n 1, 1) := by decide +kernel
theorem dX9_play_163 : decode cX9_play 163 = .ok (.goto 22, 3) := by decide +kernel
theorem dX9_play_166 : decode cX9_play 166 = .ok (.aload_n 0, 1) := by decide +kernel
theorem dX9_play_167 : decode cX9_play 167 = .ok (.iload_n 2, 1) := by decide +kernel
theorem dX9_play_168 : decode cX9_play 168 = .ok (.invokevirtual 196, 3) := by decide +kernel
theorem dX9_play_171 : decode cX9_play 171 = .ok (.aload_n 0, 1) := by decide +kernel
theorem dX9_play_172 : decode cX9_play 172 = .ok (.iload_n 1, 1) := by decide +kernel
theorem dX9_play_173 : decode cX9_play 173 = .ok (.invokevirtual 196, 3) := by decide +kernel
theorem dX9_play_176 : decode cX9_play 176 = .ok (.if_icmp .le 7, 3) := by decide +kernel
theorem dX9_play_179 : decode cX9_play 179 = .ok (.iload_n 2, 1) := by decide +kernel
theorem dX9_play_180 : decode cX9_play 180 = .ok (.goto 5, 3) := by decide +kernel
theorem dX9_play_183 : decode cX9_play 183 = .ok (.iload 5, 2) := by decide +kernel
theorem dX9_play_185 : decode cX9_play 185 = .ok (.istore 6, 2) := by decide +kernel
theorem dX9_play_187 : decode cX9_play 187 = .ok (.aload_n 0, 1) := by decide +kernel
theorem dX9_play_188 : decode cX9_play 188 = .ok (.aload_n 0, 1) := by decide +kernel
theorem dX9_play_189 : decode cX9_play 189 = .ok (.getfield 183, 3) := by decide +kernel
theorem dX9_play_192 : decode cX9_play 192 = .ok (.aload_n 0, 1) := by decide +kernel
theorem dX9_play_193 : decode cX9_play 193 = .ok (.getfield 186, 3) := by decide +kernel
theorem dX9_play_196 : decode cX9_play 196 = .ok (.invokestatic 180, 3) := by decide +kernel
theorem dX9_play_199 : decode cX9_play 199 = .ok (.if_icmp .ne 7, 3) := by decide +kernel
theorem dX9_play_202 : decode cX9_play 202 = .ok (.iload_n 1, 1) := by decide +kernel
theorem dX9_play_203 : decode cX9_play 203 = .ok (.goto 23, 3) := by decide +kernel
theorem dX9_play_206 : decode cX9_play 206 = .ok (.aload_n 0, 1) := by decide +kernel
theorem dX9_play_207 : decode cX9_play 207 = .ok (.getfield 186, 3) := by decide +kernel
theorem dX9_play_210 : decode cX9_play 210 = .ok (.aload_n 0, 1) := by decide +kernel
theorem dX9_play_211 : decode cX9_play 211 = .ok (.getfield 183, 3) := by decide +kernel
theorem dX9_play_214 : decode cX9_play 214 = .ok (.invokestatic 180, 3) := by decide +kernel
theorem dX9_play_217 : decode cX9_play 217 = .ok (.if_icmp .ne 7, 3) := by decide +kernel
theorem dX9_play_220 : decode cX9_play 220 = .ok (.iload_n 2, 1) := by decide +kernel
theorem dX9_play_221 : decode cX9_play 221 = .ok (.goto 5, 3) := by decide +kernel
theorem dX9_play_224 : decode cX9_play 224 = .ok (.iload 6, 2) := by decide +kernel
theorem dX9_play_226 : decode cX9_play 226 = .ok (.putfield 199, 3) := by decide +kernel
theorem dX9_play_229 : decode cX9_play 229 = .ok (.return_, 1) := by decide +kernel
set_option maxRecDepth 20000 in
theorem ggX9_join_X9_players : GoodIn wsX9_join wsX9_players := goodIn_r _ [6, 1, 7, 8, 9, 10, 11, 12, 13, 14, 15, 16, 17, 18, 19, 20, 21, 22, 23, 24, 25, 26, 27, 28, 29, 30, 31, 32, 33, 34, 35, 36, 37] (by decide +kernel) (by decide +kernel)
set_option maxRecDepth 20000 in
theorem gX9_join_X9_players : GoodIn wsX9_join (wsV RX9 174 RX9 yX9_players wsX9_players) := goodIn_app (goodIn_of _ (by decide +kernel)) ggX9_join_X9_players
theorem dX9_join_0 : decode cX9_join 0 = .ok (.aload_n 0, 1) := by decide +kernel
theorem dX9_join_1 : decode cX9_join 1 = .ok (.getfield 7, 3) := by decide +kernel
theorem dX9_join_4 : decode cX9_join 4 = .ok (.bipush 9, 2) := by decide +kernel
theorem dX9_join_6 : decode cX9_join 6 = .ok (.iload_n 1, 1) := by decide +kernel
theorem dX9_join_7 : decode cX9_join 7 = .ok (.iadd, 1) := by decide +kernel
theorem dX9_join_8 : decode cX9_join 8 = .ok (.iload_n 3, 1) := by decide +kernel
theorem dX9_join_9 : decode cX9_join 9 = .ok (.iastore, 1) := by decide +kernel
theorem dX9_join_10 : decode cX9_join 10 = .ok (.aload_n 0, 1) := by decide +kernel
theorem dX9_join_11 : decode cX9_join 11 = .ok (.getfield 7, 3) := by decide +kernel
theorem dX9_join_14 : decode cX9_join 14 = .ok (.bipush 9, 2) := by decide +kernel
theorem dX9_join_16 : decode cX9_join 16 = .ok (.iload_n 2, 1) := by decide +kernel
theorem dX9_join_17 : decode cX9_join 17 = .ok (.iadd, 1) := by decide +kernel
theorem dX9_join_18 : decode cX9_join 18 = .ok (.iload 4, 2) := by decide +kernel
theorem dX9_join_20 : decode cX9_join 20 = .ok (.iastore, 1) := by decide +kernel
theorem dX9_join_21 : decode cX9_join 21 = .ok (.iload 5, 2) := by decide +kernel
theorem dX9_join_23 : decode cX9_join 23 = .ok (.iload_n 1, 1) := by decide +kernel
theorem dX9_join_24 : decode cX9_join 24 = .ok (.if_icmp .ne 7, 3) := by decide +kernel
theorem dX9_join_27 : decode cX9_join 27 = .ok (.iload_n 2, 1) := by decide +kernel
theorem dX9_join_28 : decode cX9_join 28 = .ok (.goto 4, 3) := by decide +kernel
theorem dX9_join_31 : decode cX9_join 31 = .ok (.iload_n 1, 1) := by decide +kernel
theorem dX9_join_32 : decode cX9_join 32 = .ok (.istore 6, 2) := by decide +kernel
theorem dX9_join_34 : decode cX9_join 34 = .ok (.iconst 0, 1) := by decide +kernel
theorem dX9_join_35 : decode cX9_join 35 = .ok (.istore 7, 2) := by decide +kernel
theorem dX9_join_37 : decode cX9_join 37 = .ok (.iload 7, 2) := by decide +kernel
theorem dX9_join_39 : decode cX9_join 39 = .ok (.aload_n 0, 1) := by decide +kernel
theorem dX9_join_40 : decode cX9_join 40 = .ok (.invokevirtual 174, 3) := by decide +kernel
theorem dX9_join_43 : decode cX9_join 43 = .ok (.if_icmp .ge 49, 3) := by decide +kernel
theorem dX9_join_46 : decode cX9_join 46 = .ok (.aload_n 0, 1) := by decide +kernel
theorem dX9_join_47 : decode cX9_join 47 = .ok (.getfield 7, 3) := by decide +kernel
theorem dX9_join_50 : decode cX9_join 50 = .ok (.bipush 17, 2) := by decide +kernel
theorem dX9_join_52 : decode cX9_join 52 = .ok (.iload 7, 2) := by decide +kernel
theorem dX9_join_54 : decode cX9_join 54 = .ok (.iadd, 1) := by decide +kernel
theorem dX9_join_55 : decode cX9_join 55 = .ok (.aload_n 0, 1) := by decide +kernel
theorem dX9_join_56 : decode cX9_join 56 = .ok (.getfield 7, 3) := by decide +kernel
theorem dX9_join_59 : decode cX9_join 59 = .ok (.bipush 17, 2) := by decide +kernel
theorem dX9_join_61 : decode cX9_join 61 = .ok (.iload 7, 2) := by decide +kernel
theorem dX9_join_63 : decode cX9_join 63 = .ok (.iadd, 1) := by decide +kernel
theorem dX9_join_64 : decode cX9_join 64 = .ok (.iaload, 1) := by decide +kernel
theorem dX9_join_65 : decode cX9_join 65 = .ok (.iload 6, 2) := by decide +kernel
theorem dX9_join_67 : decode cX9_join 67 = .ok (.if_icmp .ne 8, 3) := by decide +kernel
theorem dX9_join_70 : decode cX9_join 70 = .ok (.iload 5, 2) := by decide +kernel
theorem dX9_join_72 : decode cX9_join 72 = .ok (.goto 13, 3) := by decide +kernel
theorem dX9_join_75 : decode cX9_join 75 = .ok (.aload_n 0, 1) := by decide +kernel
theorem dX9_join_76 : decode cX9_join 76 = .ok (.getfield 7, 3) := by decide +kernel
theorem dX9_join_79 : decode cX9_join 79 = .ok (.bipush 17, 2) := by decide +kernel
theorem dX9_join_81 : decode cX9_join 81 = .ok (.iload 7, 2) := by decide +kernel
theorem dX9_join_83 : decode cX9_join 83 = .ok (.iadd, 1) := by decide +kernel
theorem dX9_join_84 : decode cX9_join 84 = .ok (.iaload, 1) := by decide +kernel
theorem dX9_join_85 : decode cX9_join 85 = .ok (.iastore, 1) := by decide +kernel
theorem dX9_join_86 : decode cX9_join 86 = .ok (.iinc 7 1, 3) := by decide +kernel
theorem dX9_join_89 : decode cX9_join 89 = .ok (.goto (-52), 3) := by decide +kernel
theorem dX9_join_92 : decode cX9_join 92 = .ok (.return_, 1) := by decide +kernel
set_option maxRecDepth 20000 in
theorem ggX9_goRound_X9_players : GoodIn wsX9_goRound wsX9_players := goodIn_r _ [12, 7, 36, 37, 38, 39, 40, 41, 42, 43, 44, 45, 46, 47, 48, 49, 50, 51, 52, 53, 54, 55, 56, 57, 58, 59, 60, 61, 62, 63, 64, 65, 66] (by decide +kernel) (by decide +kernel)
set_option maxRecDepth 20000 in
theorem gX9_goRound_X9_players : GoodIn wsX9_goRound (wsV RX9 174 RX9 yX9_players wsX9_players) := goodIn_app (goodIn_of _ (by decide +kernel)) ggX9_goRound_X9_players
set_option maxRecDepth 20000 in
theorem ggX9_goRound_X9_leads : GoodIn wsX9_goRound wsX9_leads := goodIn_r _ [16, 7, 36, 37, 38, 39, 40, 41, 42, 43, 44, 45, 46, 47, 48, 49, 50, 51, 52, 53, 54, 55, 56, 57, 58, 59, 60, 61, 62, 63, 64, 65, 66] (by decide +kernel) (by decide +kernel)
set_option maxRecDepth 20000 in
theorem gX9_goRound_X9_leads : GoodIn wsX9_goRound (wsV RX9 177 RX9 yX9_leads wsX9_leads) := goodIn_app (goodIn_of _ (by decide +kernel)) ggX9_goRound_X9_leads
set_option maxRecDepth 20000 in
theorem ggX9_goRound_X9_play : GoodIn wsX9_goRound wsX9_play := goodIn_r _ [20, 7, 4, 5, 2, 6, 21, 22, 11, 23, 24, 25, 26, 27, 28, 29, 30, 31, 8, 9, 10, 12, 36, 37, 38, 39, 40, 41, 42, 43, 44, 45, 46, 47, 48, 49, 50, 51, 52, 53, 54, 55, 56, 57, 58, 59, 60, 61, 62, 63, 64, 65, 66] (by decide +kernel) (by decide +kernel)
set_option maxRecDepth 20000 in
theorem gX9_goRound_X9_play : GoodIn wsX9_goRound (wsV RX9 202 RX9 yX9_play wsX9_play) := goodIn_app (goodIn_of _ (by decide +kernel)) ggX9_goRound_X9_play
set_option maxRecDepth 20000 in
theorem ggX9_goRound_X9_join : GoodIn wsX9_goRound wsX9_join := goodIn_r _ [35, 7, 8, 9, 10, 11, 12, 36, 37, 38, 39, 40, 41, 42, 43, 44, 45, 46, 47, 48, 49, 50, 51, 52, 53, 54, 55, 56, 57, 58, 59, 60, 61, 62, 63, 64, 65, 66] (by decide +kernel) (by decide +kernel)
set_option maxRecDepth 20000 in
theorem gX9_goRound_X9_join : GoodIn wsX9_goRound (wsV RX9 206 RX9 yX9_join wsX9_join) := goodIn_app (goodIn_of _ (by decide +kernel)) ggX9_goRound_X9_join
theorem dX9_goRound_0 : decode cX9_goRound 0 = .ok (.iconst 0, 1) := by decide +kernel
theorem dX9_goRound_1 : decode cX9_goRound 1 = .ok (.istore_n 1, 1) := by decide +kernel
theorem dX9_goRound_2 : decode cX9_goRound 2 = .ok (.iconst 0, 1) := by decide +kernel
theorem dX9_goRound_3 : decode cX9_goRound 3 = .ok (.istore_n 2, 1) := by decide +kernel
theorem dX9_goRound_4 : decode cX9_goRound 4 = .ok (.iload_n 2, 1) := by decide +kernel
theorem dX9_goRound_5 : decode cX9_goRound 5 = .ok (.aload_n 0, 1) := by decide +kernel
theorem dX9_goRound_6 : decode cX9_goRound 6 = .ok (.invokevirtual 174, 3) := by decide +kernel
theorem dX9_goRound_9 : decode cX9_goRound 9 = .ok (.if_icmp .ge 27, 3) := by decide +kernel
theorem dX9_goRound_12 : decode cX9_goRound 12 = .ok (.aload_n 0, 1) := by decide +kernel
theorem dX9_goRound_13 : decode cX9_goRound 13 = .ok (.iload_n 2, 1) := by decide +kernel
theorem dX9_goRound_14 : decode cX9_goRound 14 = .ok (.invokevirtual 177, 3) := by decide +kernel
theorem dX9_goRound_17 : decode cX9_goRound 17 = .ok (.ifCond .eq 13, 3) := by decide +kernel
theorem dX9_goRound_20 : decode cX9_goRound 20 = .ok (.aload_n 0, 1) := by decide +kernel
theorem dX9_goRound_21 : decode cX9_goRound 21 = .ok (.getfield 50, 3) := by decide +kernel
theorem dX9_goRound_24 : decode cX9_goRound 24 = .ok (.iload_n 1, 1) := by decide +kernel
theorem dX9_goRound_25 : decode cX9_goRound 25 = .ok (.iload_n 2, 1) := by decide +kernel
theorem dX9_goRound_26 : decode cX9_goRound 26 = .ok (.iastore, 1) := by decide +kernel
theorem dX9_goRound_27 : decode cX9_goRound 27 = .ok (.iinc 1 1, 3) := by decide +kernel
theorem dX9_goRound_30 : decode cX9_goRound 30 = .ok (.iinc 2 1, 3) := by decide +kernel
theorem dX9_goRound_33 : decode cX9_goRound 33 = .ok (.goto (-29), 3) := by decide +kernel
theorem dX9_goRound_36 : decode cX9_goRound 36 = .ok (.iconst 0, 1) := by decide +kernel
theorem dX9_goRound_37 : decode cX9_goRound 37 = .ok (.istore_n 2, 1) := by decide +kernel
theorem dX9_goRound_38 : decode cX9_goRound 38 = .ok (.iconst 0, 1) := by decide +kernel
theorem dX9_goRound_39 : decode cX9_goRound 39 = .ok (.istore_n 3, 1) := by decide +kernel
theorem dX9_goRound_40 : decode cX9_goRound 40 = .ok (.iload_n 3, 1) := by decide +kernel
theorem dX9_goRound_41 : decode cX9_goRound 41 = .ok (.iconst 1, 1) := by decide +kernel
theorem dX9_goRound_42 : decode cX9_goRound 42 = .ok (.iadd, 1) := by decide +kernel
theorem dX9_goRound_43 : decode cX9_goRound 43 = .ok (.iload_n 1, 1) := by decide +kernel
theorem dX9_goRound_44 : decode cX9_goRound 44 = .ok (.if_icmp .ge 90, 3) := by decide +kernel
theorem dX9_goRound_47 : decode cX9_goRound 47 = .ok (.aload_n 0, 1) := by decide +kernel
theorem dX9_goRound_48 : decode cX9_goRound 48 = .ok (.aload_n 0, 1) := by decide +kernel
theorem dX9_goRound_49 : decode cX9_goRound 49 = .ok (.getfield 50, 3) := by decide +kernel
theorem dX9_goRound_52 : decode cX9_goRound 52 = .ok (.iload_n 3, 1) := by decide +kernel
theorem dX9_goRound_53 : decode cX9_goRound 53 = .ok (.iaload, 1) := by decide +kernel
theorem dX9_goRound_54 : decode cX9_goRound 54 = .ok (.aload_n 0, 1) := by decide +kernel
theorem dX9_goRound_55 : decode cX9_goRound 55 = .ok (.getfield 50, 3) := by decide +kernel
theorem dX9_goRound_58 : decode cX9_goRound 58 = .ok (.iload_n 3, 1) := by decide +kernel
theorem dX9_goRound_59 : decode cX9_goRound 59 = .ok (.iconst 1, 1) := by decide +kernel
theorem dX9_goRound_60 : decode cX9_goRound 60 = .ok (.iadd, 1) := by decide +kernel
theorem dX9_goRound_61 : decode cX9_goRound 61 = .ok (.iaload, 1) := by decide +kernel
theorem dX9_goRound_62 : decode cX9_goRound 62 = .ok (.invokevirtual 202, 3) := by decide +kernel
theorem dX9_goRound_65 : decode cX9_goRound 65 = .ok (.aload_n 0, 1) := by decide +kernel
theorem dX9_goRound_66 : decode cX9_goRound 66 = .ok (.getfield 189, 3) := by decide +kernel
theorem dX9_goRound_69 : decode cX9_goRound 69 = .ok (.iload_n 2, 1) := by decide +kernel
theorem dX9_goRound_70 : decode cX9_goRound 70 = .ok (.if_icmp .le 10, 3) := by decide +kernel
theorem dX9_goRound_73 : decode cX9_goRound 73 = .ok (.aload_n 0, 1) := by decide +kernel
theorem dX9_goRound_74 : decode cX9_goRound 74 = .ok (.getfield 189, 3) := by decide +kernel
theorem dX9_goRound_77 : decode cX9_goRound 77 = .ok (.goto 4, 3) := by decide +kernel
theorem dX9_goRound_80 : decode cX9_goRound 80 = .ok (.iload_n 2, 1) := by decide +kernel
theorem dX9_goRound_81 : decode cX9_goRound 81 = .ok (.istore_n 2, 1) := by decide +kernel
theorem dX9_goRound_82 : decode cX9_goRound 82 = .ok (.aload_n 0, 1) := by decide +kernel
theorem dX9_goRound_83 : decode cX9_goRound 83 = .ok (.getfield 53, 3) := by decide +kernel
theorem dX9_goRound_86 : decode cX9_goRound 86 = .ok (.iconst 3, 1) := by decide +kernel
theorem dX9_goRound_87 : decode cX9_goRound 87 = .ok (.iload_n 3, 1) := by decide +kernel
theorem dX9_goRound_88 : decode cX9_goRound 88 = .ok (.iconst 2, 1) := by decide +kernel
theorem dX9_goRound_89 : decode cX9_goRound 89 = .ok (.idiv, 1) := by decide +kernel
theorem dX9_goRound_90 : decode cX9_goRound 90 = .ok (.imul, 1) := by decide +kernel
theorem dX9_goRound_91 : decode cX9_goRound 91 = .ok (.aload_n 0, 1) := by decide +kernel
theorem dX9_goRound_92 : decode cX9_goRound 92 = .ok (.getfield 183, 3) := by decide +kernel
theorem dX9_goRound_95 : decode cX9_goRound 95 = .ok (.iastore, 1) := by decide +kernel
theorem dX9_goRound_96 : decode cX9_goRound 96 = .ok (.aload_n 0, 1) := by decide +kernel
theorem dX9_goRound_97 : decode cX9_goRound 97 = .ok (.getfield 53, 3) := by decide +kernel
theorem dX9_goRound_100 : decode cX9_goRound 100 = .ok (.iconst 3, 1) := by decide +kernel
theorem dX9_goRound_101 : decode cX9_goRound 101 = .ok (.iload_n 3, 1) := by decide +kernel
theorem dX9_goRound_102 : decode cX9_goRound 102 = .ok (.iconst 2, 1) := by decide +kernel
theorem dX9_goRound_103 : decode cX9_goRound 103 = .ok (.idiv, 1) := by decide +kernel
theorem dX9_goRound_104 : decode cX9_goRound 104 = .ok (.imul, 1) := by decide +kernel
theorem dX9_goRound_105 : decode cX9_goRound 105 = .ok (.iconst 1, 1) := by decide +kernel
theorem dX9_goRound_106 : decode cX9_goRound 106 = .ok (.iadd, 1) := by decide +kernel
theorem dX9_goRound_107 : decode cX9_goRound 107 = .ok (.aload_n 0, 1) := by decide +kernel
theorem dX9_goRound_108 : decode cX9_goRound 108 = .ok (.getfield 186, 3) := by decide +kernel
theorem dX9_goRound_111 : decode cX9_goRound 111 = .ok (.iastore, 1) := by decide +kernel
theorem dX9_goRound_112 : decode cX9_goRound 112 = .ok (.aload_n 0, 1) := by decide +kernel
theorem dX9_goRound_113 : decode cX9_goRound 113 = .ok (.getfield 53, 3) := by decide +kernel
theorem dX9_goRound_116 : decode cX9_goRound 116 = .ok (.iconst 3, 1) := by decide +kernel
theorem dX9_goRound_117 : decode cX9_goRound 117 = .ok (.iload_n 3, 1) := by decide +kernel
theorem dX9_goRound_118 : decode cX9_goRound 118 = .ok (.iconst 2, 1) := by decide +kernel
theorem dX9_goRound_119 : decode cX9_goRound 119 = .ok (.idiv, 1) := by decide +kernel
theorem dX9_goRound_120 : decode cX9_goRound 120 = .ok (.imul, 1) := by decide +kernel
theorem dX9_goRound_121 : decode cX9_goRound 121 = .ok (.iconst 2, 1) := by decide +kernel
theorem dX9_goRound_122 : decode cX9_goRound 122 = .ok (.iadd, 1) := by decide +kernel
theorem dX9_goRound_123 : decode cX9_goRound 123 = .ok (.aload_n 0, 1) := by decide +kernel
theorem dX9_goRound_124 : decode cX9_goRound 124 = .ok (.getfield 199, 3) := by decide +kernel
theorem dX9_goRound_127 : decode cX9_goRound 127 = .ok (.iastore, 1) := by decide +kernel
theorem dX9_goRound_128 : decode cX9_goRound 128 = .ok (.iinc 3 2, 3) := by decide +kernel
theorem dX9_goRound_131 : decode cX9_goRound 131 = .ok (.goto (-91), 3) := by decide +kernel
theorem dX9_goRound_134 : decode cX9_goRound 134 = .ok (.iconst 0, 1) := by decide +kernel
theorem dX9_goRound_135 : decode cX9_goRound 135 = .ok (.istore_n 3, 1) := by decide +kernel
theorem dX9_goRound_136 : decode cX9_goRound 136 = .ok (.iload_n 3, 1) := by decide +kernel
theorem dX9_goRound_137 : decode cX9_goRound 137 = .ok (.iconst 1, 1) := by decide +kernel
theorem dX9_goRound_138 : decode cX9_goRound 138 = .ok (.iadd, 1) := by decide +kernel
theorem dX9_goRound_139 : decode cX9_goRound 139 = .ok (.iload_n 1, 1) := by decide +kernel
theorem dX9_goRound_140 : decode cX9_goRound 140 = .ok (.if_icmp .ge 61, 3) := by decide +kernel
theorem dX9_goRound_143 : decode cX9_goRound 143 = .ok (.aload_n 0, 1) := by decide +kernel
theorem dX9_goRound_144 : decode cX9_goRound 144 = .ok (.aload_n 0, 1) := by decide +kernel
theorem dX9_goRound_145 : decode cX9_goRound 145 = .ok (.getfield 50, 3) := by decide +kernel
theorem dX9_goRound_148 : decode cX9_goRound 148 = .ok (.iload_n 3, 1) := by decide +kernel
theorem dX9_goRound_149 : decode cX9_goRound 149 = .ok (.iaload, 1) := by decide +kernel
theorem dX9_goRound_150 : decode cX9_goRound 150 = .ok (.aload_n 0, 1) := by decide +kernel
theorem dX9_goRound_151 : decode cX9_goRound 151 = .ok (.getfield 50, 3) := by decide +kernel
theorem dX9_goRound_154 : decode cX9_goRound 154 = .ok (.iload_n 3, 1) := by decide +kernel
theorem dX9_goRound_155 : decode cX9_goRound 155 = .ok (.iconst 1, 1) := by decide +kernel
theorem dX9_goRound_156 : decode cX9_goRound 156 = .ok (.iadd, 1) := by decide +kernel
theorem dX9_goRound_157 : decode cX9_goRound 157 = .ok (.iaload, 1) := by decide +kernel
theorem dX9_goRound_158 : decode cX9_goRound 158 = .ok (.aload_n 0, 1) := by decide +kernel
theorem dX9_goRound_159 : decode cX9_goRound 159 = .ok (.getfield 53, 3) := by decide +kernel
theorem dX9_goRound_162 : decode cX9_goRound 162 = .ok (.iconst 3, 1) := by decide +kernel
theorem dX9_goRound_163 : decode cX9_goRound 163 = .ok (.iload_n 3, 1) := by decide +kernel
theorem dX9_goRound_164 : decode cX9_goRound 164 = .ok (.iconst 2, 1) := by decide +kernel
theorem dX9_goRound_165 : decode cX9_goRound 165 = .ok (.idiv, 1) := by decide +kernel
theorem dX9_goRound_166 : decode cX9_goRound 166 = .ok (.imul, 1) := by decide +kernel
theorem dX9_goRound_167 : decode cX9_goRound 167 = .ok (.iaload, 1) := by decide +kernel
theorem dX9_goRound_168 : decode cX9_goRound 168 = .ok (.aload_n 0, 1) := by decide +kernel
theorem dX9_goRound_169 : decode cX9_goRound 169 = .ok (.getfield 53, 3) := by decide +kernel
theorem dX9_goRound_172 : decode cX9_goRound 172 = .ok (.iconst 3, 1) := by decide +kernel
theorem dX9_goRound_173 : decode cX9_goRound 173 = .ok (.iload_n 3, 1) := by decide +kernel
theorem dX9_goRound_174 : decode cX9_goRound 174 = .ok (.iconst 2, 1) := by decide +kernel
theorem dX9_goRound_175 : decode cX9_goRound 175 = .ok (.idiv, 1) := by decide +kernel
theorem dX9_goRound_176 : decode cX9_goRound 176 = .ok (.imul, 1) := by decide +kernel
theorem dX9_goRound_177 : decode cX9_goRound 177 = .ok (.iconst 1, 1) := by decide +kernel
theorem dX9_goRound_178 : decode cX9_goRound 178 = .ok (.iadd, 1) := by decide +kernel
theorem dX9_goRound_179 : decode cX9_goRound 179 = .ok (.iaload, 1) := by decide +kernel
theorem dX9_goRound_180 : decode cX9_goRound 180 = .ok (.aload_n 0, 1) := by decide +kernel
theorem dX9_goRound_181 : decode cX9_goRound 181 = .ok (.getfield 53, 3) := by decide +kernel
theorem dX9_goRound_184 : decode cX9_goRound 184 = .ok (.iconst 3, 1) := by decide +kernel
theorem dX9_goRound_185 : decode cX9_goRound 185 = .ok (.iload_n 3, 1) := by decide +kernel
theorem dX9_goRound_186 : decode cX9_goRound 186 = .ok (.iconst 2, 1) := by decide +kernel
theorem dX9_goRound_187 : decode cX9_goRound 187 = .ok (.idiv, 1) := by decide +kernel
theorem dX9_goRound_188 : decode cX9_goRound 188 = .ok (.imul, 1) := by decide +kernel
theorem dX9_goRound_189 : decode cX9_goRound 189 = .ok (.iconst 2, 1) := by decide +kernel
theorem dX9_goRound_190 : decode cX9_goRound 190 = .ok (.iadd, 1) := by decide +kernel
theorem dX9_goRound_191 : decode cX9_goRound 191 = .ok (.iaload, 1) := by decide +kernel
theorem dX9_goRound_192 : decode cX9_goRound 192 = .ok (.invokevirtual 206, 3) := by decide +kernel
theorem dX9_goRound_195 : decode cX9_goRound 195 = .ok (.iinc 3 2, 3) := by decide +kernel
theorem dX9_goRound_198 : decode cX9_goRound 198 = .ok (.goto (-62), 3) := by decide +kernel
theorem dX9_goRound_201 : decode cX9_goRound 201 = .ok (.aload_n 0, 1) := by decide +kernel
theorem dX9_goRound_202 : decode cX9_goRound 202 = .ok (.getfield 7, 3) := by decide +kernel
theorem dX9_goRound_205 : decode cX9_goRound 205 = .ok (.bipush 26, 2) := by decide +kernel
theorem dX9_goRound_207 : decode cX9_goRound 207 = .ok (.dup2, 1) := by decide +kernel
theorem dX9_goRound_208 : decode cX9_goRound 208 = .ok (.iaload, 1) := by decide +kernel
theorem dX9_goRound_209 : decode cX9_goRound 209 = .ok (.iload_n 2, 1) := by decide +kernel
theorem dX9_goRound_210 : decode cX9_goRound 210 = .ok (.iadd, 1) := by decide +kernel
theorem dX9_goRound_211 : decode cX9_goRound 211 = .ok (.iastore, 1) := by decide +kernel
theorem dX9_goRound_212 : decode cX9_goRound 212 = .ok (.aload_n 0, 1) := by decide +kernel
theorem dX9_goRound_213 : decode cX9_goRound 213 = .ok (.getfield 7, 3) := by decide +kernel
theorem dX9_goRound_216 : decode cX9_goRound 216 = .ok (.bipush 25, 2) := by decide +kernel
theorem dX9_goRound_218 : decode cX9_goRound 218 = .ok (.dup2, 1) := by decide +kernel
theorem dX9_goRound_219 : decode cX9_goRound 219 = .ok (.iaload, 1) := by decide +kernel
theorem dX9_goRound_220 : decode cX9_goRound 220 = .ok (.iconst 1, 1) := by decide +kernel
theorem dX9_goRound_221 : decode cX9_goRound 221 = .ok (.iadd, 1) := by decide +kernel
theorem dX9_goRound_222 : decode cX9_goRound 222 = .ok (.iastore, 1) := by decide +kernel
theorem dX9_goRound_223 : decode cX9_goRound 223 = .ok (.return_, 1) := by decide +kernel
theorem dX9_keepAct_0 : decode cX9_keepAct 0 = .ok (.aload_n 0, 1) := by decide +kernel
theorem dX9_keepAct_1 : decode cX9_keepAct 1 = .ok (.getfield 171, 3) := by decide +kernel
theorem dX9_keepAct_4 : decode cX9_keepAct 4 = .ok (.bipush 24, 2) := by decide +kernel
theorem dX9_keepAct_6 : decode cX9_keepAct 6 = .ok (.if_icmp .ne 43, 3) := by decide +kernel
theorem dX9_keepAct_9 : decode cX9_keepAct 9 = .ok (.iconst 0, 1) := by decide +kernel
theorem dX9_keepAct_10 : decode cX9_keepAct 10 = .ok (.istore_n 1, 1) := by decide +kernel
theorem dX9_keepAct_11 : decode cX9_keepAct 11 = .ok (.iload_n 1, 1) := by decide +kernel
theorem dX9_keepAct_12 : decode cX9_keepAct 12 = .ok (.sipush 621, 3) := by decide +kernel
theorem dX9_keepAct_15 : decode cX9_keepAct 15 = .ok (.if_icmp .ge 24, 3) := by decide +kernel
theorem dX9_keepAct_18 : decode cX9_keepAct 18 = .ok (.aload_n 0, 1) := by decide +kernel
theorem dX9_keepAct_19 : decode cX9_keepAct 19 = .ok (.getfield 20, 3) := by decide +kernel
theorem dX9_keepAct_22 : decode cX9_keepAct 22 = .ok (.iload_n 1, 1) := by decide +kernel
theorem dX9_keepAct_23 : decode cX9_keepAct 23 = .ok (.aload_n 0, 1) := by decide +kernel
theorem dX9_keepAct_24 : decode cX9_keepAct 24 = .ok (.getfield 20, 3) := by decide +kernel
theorem dX9_keepAct_27 : decode cX9_keepAct 27 = .ok (.iload_n 1, 1) := by decide +kernel
theorem dX9_keepAct_28 : decode cX9_keepAct 28 = .ok (.bipush 27, 2) := by decide +kernel
theorem dX9_keepAct_30 : decode cX9_keepAct 30 = .ok (.iadd, 1) := by decide +kernel
theorem dX9_keepAct_31 : decode cX9_keepAct 31 = .ok (.iaload, 1) := by decide +kernel
theorem dX9_keepAct_32 : decode cX9_keepAct 32 = .ok (.iastore, 1) := by decide +kernel
theorem dX9_keepAct_33 : decode cX9_keepAct 33 = .ok (.iinc 1 1, 3) := by decide +kernel
theorem dX9_keepAct_36 : decode cX9_keepAct 36 = .ok (.goto (-25), 3) := by decide +kernel
theorem dX9_keepAct_39 : decode cX9_keepAct 39 = .ok (.aload_n 0, 1) := by decide +kernel
theorem dX9_keepAct_40 : decode cX9_keepAct 40 = .ok (.dup, 1) := by decide +kernel
theorem dX9_keepAct_41 : decode cX9_keepAct 41 = .ok (.getfield 171, 3) := by decide +kernel
theorem dX9_keepAct_44 : decode cX9_keepAct 44 = .ok (.iconst 1, 1) := by decide +kernel
theorem dX9_keepAct_45 : decode cX9_keepAct 45 = .ok (.isub, 1) := by decide +kernel
theorem dX9_keepAct_46 : decode cX9_keepAct 46 = .ok (.putfield 171, 3) := by decide +kernel
theorem dX9_keepAct_49 : decode cX9_keepAct 49 = .ok (.iconst 0, 1) := by decide +kernel
theorem dX9_keepAct_50 : decode cX9_keepAct 50 = .ok (.istore_n 1, 1) := by decide +kernel
theorem dX9_keepAct_51 : decode cX9_keepAct 51 = .ok (.iload_n 1, 1) := by decide +kernel
theorem dX9_keepAct_52 : decode cX9_keepAct 52 = .ok (.bipush 27, 2) := by decide +kernel
theorem dX9_keepAct_54 : decode cX9_keepAct 54 = .ok (.if_icmp .ge 29, 3) := by decide +kernel
theorem dX9_keepAct_57 : decode cX9_keepAct 57 = .ok (.aload_n 0, 1) := by decide +kernel
theorem dX9_keepAct_58 : decode cX9_keepAct 58 = .ok (.getfield 20, 3) := by decide +kernel
theorem dX9_keepAct_61 : decode cX9_keepAct 61 = .ok (.bipush 27, 2) := by decide +kernel
theorem dX9_keepAct_63 : decode cX9_keepAct 63 = .ok (.aload_n 0, 1) := by decide +kernel
theorem dX9_keepAct_64 : decode cX9_keepAct 64 = .ok (.getfield 171, 3) := by decide +kernel
theorem dX9_keepAct_67 : decode cX9_keepAct 67 = .ok (.imul, 1) := by decide +kernel
theorem dX9_keepAct_68 : decode cX9_keepAct 68 = .ok (.iload_n 1, 1) := by decide +kernel
theorem dX9_keepAct_69 : decode cX9_keepAct 69 = .ok (.iadd, 1) := by decide +kernel
theorem dX9_keepAct_70 : decode cX9_keepAct 70 = .ok (.aload_n 0, 1) := by decide +kernel
theorem dX9_keepAct_71 : decode cX9_keepAct 71 = .ok (.getfield 7, 3) := by decide +kernel
theorem dX9_keepAct_74 : decode cX9_keepAct 74 = .ok (.iload_n 1, 1) := by decide +kernel
theorem dX9_keepAct_75 : decode cX9_keepAct 75 = .ok (.iaload, 1) := by decide +kernel
theorem dX9_keepAct_76 : decode cX9_keepAct 76 = .ok (.iastore, 1) := by decide +kernel
theorem dX9_keepAct_77 : decode cX9_keepAct 77 = .ok (.iinc 1 1, 3) := by decide +kernel
theorem dX9_keepAct_80 : decode cX9_keepAct 80 = .ok (.goto (-29), 3) := by decide +kernel
theorem dX9_keepAct_83 : decode cX9_keepAct 83 = .ok (.aload_n 0, 1) := by decide +kernel
theorem dX9_keepAct_84 : decode cX9_keepAct 84 = .ok (.dup, 1) := by decide +kernel
theorem dX9_keepAct_85 : decode cX9_keepAct 85 = .ok (.getfield 171, 3) := by decide +kernel
theorem dX9_keepAct_88 : decode cX9_keepAct 88 = .ok (.iconst 1, 1) := by decide +kernel
theorem dX9_keepAct_89 : decode cX9_keepAct 89 = .ok (.iadd, 1) := by decide +kernel
theorem dX9_keepAct_90 : decode cX9_keepAct 90 = .ok (.putfield 171, 3) := by decide +kernel
theorem dX9_keepAct_93 : decode cX9_keepAct 93 = .ok (.return_, 1) := by decide +kernel
set_option maxRecDepth 20000 in
theorem ggX9_notTwo_X9_isPlayer : GoodIn wsX9_notTwo wsX9_isPlayer := goodIn_r _ [7, 8, 9, 10, 6, 11, 12, 13, 14, 15, 20, 21, 22, 23, 24, 25, 26, 27, 28, 29, 30, 31, 32, 33, 34, 35, 36, 37, 38, 39, 40, 41, 42, 43, 44, 45, 46, 47, 48, 49, 50] (by decide +kernel) (by decide +kernel)
set_option maxRecDepth 20000 in
theorem gX9_notTwo_X9_isPlayer : GoodIn wsX9_notTwo (wsV RX9 210 RX9 yX9_isPlayer wsX9_isPlayer) := goodIn_app (goodIn_of _ (by decide +kernel)) ggX9_notTwo_X9_isPlayer
set_option maxRecDepth 20000 in
theorem ggX9_notTwo_X9_leads : GoodIn wsX9_notTwo wsX9_leads := goodIn_r _ [19, 12, 20, 21, 22, 23, 24, 25, 26, 27, 28, 29, 30, 31, 32, 33, 34, 35, 36, 37, 38, 39, 40, 41, 42, 43, 44, 45, 46, 47, 48, 49, 50] (by decide +kernel) (by decide +kernel)
set_option maxRecDepth 20000 in
theorem gX9_notTwo_X9_leads : GoodIn wsX9_notTwo (wsV RX9 177 RX9 yX9_leads wsX9_leads) := goodIn_app (goodIn_of _ (by decide +kernel)) ggX9_notTwo_X9_leads
theorem dX9_notTwo_0 : decode cX9_notTwo 0 = .ok (.aload_n 0, 1) := by decide +kernel
theorem dX9_notTwo_1 : decode cX9_notTwo 1 = .ok (.iload_n 1, 1) := by decide +kernel
theorem dX9_notTwo_2 : decode cX9_notTwo 2 = .ok (.invokevirtual 210, 3) := by decide +kernel
theorem dX9_notTwo_5 : decode cX9_notTwo 5 = .ok (.ifCond .eq 16, 3) := by decide +kernel
theorem dX9_notTwo_8 : decode cX9_notTwo 8 = .ok (.aload_n 0, 1) := by decide +kernel
theorem dX9_notTwo_9 : decode cX9_notTwo 9 = .ok (.iload_n 2, 1) := by decide +kernel
theorem dX9_notTwo_10 : decode cX9_notTwo 10 = .ok (.invokevirtual 210, 3) := by decide +kernel
theorem dX9_notTwo_13 : decode cX9_notTwo 13 = .ok (.ifCond .eq 8, 3) := by decide +kernel
theorem dX9_notTwo_16 : decode cX9_notTwo 16 = .ok (.iload_n 1, 1) := by decide +kernel
theorem dX9_notTwo_17 : decode cX9_notTwo 17 = .ok (.iload_n 2, 1) := by decide +kernel
theorem dX9_notTwo_18 : decode cX9_notTwo 18 = .ok (.if_icmp .ne 8, 3) := by decide +kernel
theorem dX9_notTwo_21 : decode cX9_notTwo 21 = .ok (.ldc 79, 2) := by decide +kernel
theorem dX9_notTwo_23 : decode cX9_notTwo 23 = .ok (.goto 25, 3) := by decide +kernel
theorem dX9_notTwo_26 : decode cX9_notTwo 26 = .ok (.aload_n 0, 1) := by decide +kernel
theorem dX9_notTwo_27 : decode cX9_notTwo 27 = .ok (.iload_n 1, 1) := by decide +kernel
theorem dX9_notTwo_28 : decode cX9_notTwo 28 = .ok (.invokevirtual 177, 3) := by decide +kernel
theorem dX9_notTwo_31 : decode cX9_notTwo 31 = .ok (.ifCond .eq 11, 3) := by decide +kernel
theorem dX9_notTwo_34 : decode cX9_notTwo 34 = .ok (.aload_n 0, 1) := by decide +kernel
theorem dX9_notTwo_35 : decode cX9_notTwo 35 = .ok (.iload_n 2, 1) := by decide +kernel
theorem dX9_notTwo_36 : decode cX9_notTwo 36 = .ok (.invokevirtual 177, 3) := by decide +kernel
theorem dX9_notTwo_39 : decode cX9_notTwo 39 = .ok (.ifCond .ne 8, 3) := by decide +kernel
theorem dX9_notTwo_42 : decode cX9_notTwo 42 = .ok (.ldc 213, 2) := by decide +kernel
theorem dX9_notTwo_44 : decode cX9_notTwo 44 = .ok (.goto 4, 3) := by decide +kernel
theorem dX9_notTwo_47 : decode cX9_notTwo 47 = .ok (.iconst 0, 1) := by decide +kernel
theorem dX9_notTwo_48 : decode cX9_notTwo 48 = .ok (.ireturn, 1) := by decide +kernel
set_option maxRecDepth 20000 in
theorem ggX9_bout_X9_notTwo : GoodIn wsX9_bout wsX9_notTwo := goodIn_r _ [10, 11, 12, 13, 14, 15, 9, 16, 17, 18, 19, 20, 4, 21, 22, 23, 24, 25, 26, 27, 53, 54, 55, 56, 57, 58, 59, 60, 61, 62, 63, 64, 65, 66, 67, 68, 69, 70, 71, 72, 73, 74, 75, 76, 77, 78, 79, 80, 81, 82, 83] (by decide +kernel) (by decide +kernel)
set_option maxRecDepth 20000 in
theorem gX9_bout_X9_notTwo : GoodIn wsX9_bout (wsV RX9 214 RX9 yX9_notTwo wsX9_notTwo) := goodIn_app (goodIn_of _ (by decide +kernel)) ggX9_bout_X9_notTwo
set_option maxRecDepth 20000 in
theorem ggX9_bout_X9_keepAct : GoodIn wsX9_bout wsX9_keepAct := goodIn_r _ [31, 32, 33, 4, 53, 54, 55, 56, 57, 58, 59, 60, 61, 62, 63, 64, 65, 66, 67, 68, 69, 70, 71, 72, 73, 74, 75, 76, 77, 78, 79, 80, 81, 82, 83] (by decide +kernel) (by decide +kernel)
set_option maxRecDepth 20000 in
theorem gX9_bout_X9_keepAct : GoodIn wsX9_bout (wsV RX9 217 RX9 yX9_keepAct wsX9_keepAct) := goodIn_app (goodIn_of _ (by decide +kernel)) ggX9_bout_X9_keepAct
set_option maxRecDepth 20000 in
theorem ggX9_bout_X9_play : GoodIn wsX9_bout wsX9_play := goodIn_r _ [37, 4, 1, 2, 5, 3, 38, 39, 9, 40, 41, 42, 43, 44, 45, 46, 47, 48, 17, 18, 19, 20, 53, 54, 55, 56, 57, 58, 59, 60, 61, 62, 63, 64, 65, 66, 67, 68, 69, 70, 71, 72, 73, 74, 75, 76, 77, 78, 79, 80, 81, 82, 83] (by decide +kernel) (by decide +kernel)
set_option maxRecDepth 20000 in
theorem gX9_bout_X9_play : GoodIn wsX9_bout (wsV RX9 202 RX9 yX9_play wsX9_play) := goodIn_app (goodIn_of _ (by decide +kernel)) ggX9_bout_X9_play
set_option maxRecDepth 20000 in
theorem ggX9_bout_X9_join : GoodIn wsX9_bout wsX9_join := goodIn_r _ [52, 4, 17, 18, 19, 9, 20, 53, 54, 55, 56, 57, 58, 59, 60, 61, 62, 63, 64, 65, 66, 67, 68, 69, 70, 71, 72, 73, 74, 75, 76, 77, 78, 79, 80, 81, 82, 83] (by decide +kernel) (by decide +kernel)
set_option maxRecDepth 20000 in
theorem gX9_bout_X9_join : GoodIn wsX9_bout (wsV RX9 206 RX9 yX9_join wsX9_join) := goodIn_app (goodIn_of _ (by decide +kernel)) ggX9_bout_X9_join
theorem dX9_bout_0 : decode cX9_bout 0 = .ok (.aload_n 0, 1) := by decide +kernel
theorem dX9_bout_1 : decode cX9_bout 1 = .ok (.iload_n 1, 1) := by decide +kernel
theorem dX9_bout_2 : decode cX9_bout 2 = .ok (.iload_n 2, 1) := by decide +kernel
theorem dX9_bout_3 : decode cX9_bout 3 = .ok (.invokevirtual 214, 3) := by decide +kernel
theorem dX9_bout_6 : decode cX9_bout 6 = .ok (.istore_n 3, 1) := by decide +kernel
theorem dX9_bout_7 : decode cX9_bout 7 = .ok (.iload_n 3, 1) := by decide +kernel
theorem dX9_bout_8 : decode cX9_bout 8 = .ok (.ifCond .eq 5, 3) := by decide +kernel
theorem dX9_bout_11 : decode cX9_bout 11 = .ok (.iload_n 3, 1) := by decide +kernel
theorem dX9_bout_12 : decode cX9_bout 12 = .ok (.ireturn, 1) := by decide +kernel
theorem dX9_bout_13 : decode cX9_bout 13 = .ok (.aload_n 0, 1) := by decide +kernel
theorem dX9_bout_14 : decode cX9_bout 14 = .ok (.invokevirtual 217, 3) := by decide +kernel
theorem dX9_bout_17 : decode cX9_bout 17 = .ok (.aload_n 0, 1) := by decide +kernel
theorem dX9_bout_18 : decode cX9_bout 18 = .ok (.iload_n 1, 1) := by decide +kernel
theorem dX9_bout_19 : decode cX9_bout 19 = .ok (.iload_n 2, 1) := by decide +kernel
theorem dX9_bout_20 : decode cX9_bout 20 = .ok (.invokevirtual 202, 3) := by decide +kernel
theorem dX9_bout_23 : decode cX9_bout 23 = .ok (.aload_n 0, 1) := by decide +kernel
theorem dX9_bout_24 : decode cX9_bout 24 = .ok (.iload_n 1, 1) := by decide +kernel
theorem dX9_bout_25 : decode cX9_bout 25 = .ok (.iload_n 2, 1) := by decide +kernel
theorem dX9_bout_26 : decode cX9_bout 26 = .ok (.aload_n 0, 1) := by decide +kernel
theorem dX9_bout_27 : decode cX9_bout 27 = .ok (.getfield 183, 3) := by decide +kernel
theorem dX9_bout_30 : decode cX9_bout 30 = .ok (.aload_n 0, 1) := by decide +kernel
theorem dX9_bout_31 : decode cX9_bout 31 = .ok (.getfield 186, 3) := by decide +kernel
theorem dX9_bout_34 : decode cX9_bout 34 = .ok (.aload_n 0, 1) := by decide +kernel
theorem dX9_bout_35 : decode cX9_bout 35 = .ok (.getfield 199, 3) := by decide +kernel
theorem dX9_bout_38 : decode cX9_bout 38 = .ok (.invokevirtual 206, 3) := by decide +kernel
theorem dX9_bout_41 : decode cX9_bout 41 = .ok (.aload_n 0, 1) := by decide +kernel
theorem dX9_bout_42 : decode cX9_bout 42 = .ok (.getfield 7, 3) := by decide +kernel
theorem dX9_bout_45 : decode cX9_bout 45 = .ok (.bipush 26, 2) := by decide +kernel
theorem dX9_bout_47 : decode cX9_bout 47 = .ok (.dup2, 1) := by decide +kernel
theorem dX9_bout_48 : decode cX9_bout 48 = .ok (.iaload, 1) := by decide +kernel
theorem dX9_bout_49 : decode cX9_bout 49 = .ok (.aload_n 0, 1) := by decide +kernel
theorem dX9_bout_50 : decode cX9_bout 50 = .ok (.getfield 189, 3) := by decide +kernel
theorem dX9_bout_53 : decode cX9_bout 53 = .ok (.iadd, 1) := by decide +kernel
theorem dX9_bout_54 : decode cX9_bout 54 = .ok (.iastore, 1) := by decide +kernel
theorem dX9_bout_55 : decode cX9_bout 55 = .ok (.aload_n 0, 1) := by decide +kernel
theorem dX9_bout_56 : decode cX9_bout 56 = .ok (.getfield 199, 3) := by decide +kernel
theorem dX9_bout_59 : decode cX9_bout 59 = .ok (.ireturn, 1) := by decide +kernel
set_option maxRecDepth 20000 in
theorem ggX9_round_X9_leaders : GoodIn wsX9_round wsX9_leaders := goodIn_r _ [6, 7, 8, 9, 5, 10, 11, 12, 13, 14, 15, 51, 52, 53, 54, 55, 56, 57, 58, 59, 60, 61, 62, 63, 64, 65, 66, 67, 68, 69, 70, 71, 72, 73, 74, 75, 76, 77, 78, 79, 80, 81] (by decide +kernel) (by decide +kernel)
set_option maxRecDepth 20000 in
theorem gX9_round_X9_leaders : GoodIn wsX9_round (wsV RX9 220 RX9 yX9_leaders wsX9_leaders) := goodIn_app (goodIn_of _ (by decide +kernel)) ggX9_round_X9_leaders
set_option maxRecDepth 20000 in
theorem ggX9_round_X9_keepAct : GoodIn wsX9_round wsX9_keepAct := goodIn_r _ [19, 20, 21, 11, 51, 52, 53, 54, 55, 56, 57, 58, 59, 60, 61, 62, 63, 64, 65, 66, 67, 68, 69, 70, 71, 72, 73, 74, 75, 76, 77, 78, 79, 80, 81] (by decide +kernel) (by decide +kernel)
set_option maxRecDepth 20000 in
theorem gX9_round_X9_keepAct : GoodIn wsX9_round (wsV RX9 217 RX9 yX9_keepAct wsX9_keepAct) := goodIn_app (goodIn_of _ (by decide +kernel)) ggX9_round_X9_keepAct
set_option maxRecDepth 20000 in
theorem ggX9_round_X9_goRound : GoodIn wsX9_round wsX9_goRound := goodIn_r _ [25, 26, 27, 28, 29, 30, 31, 11, 7, 8, 9, 5, 10, 12, 13, 14, 15, 32, 33, 34, 35, 36, 37, 38, 39, 40, 41, 42, 43, 44, 45, 46, 47, 48, 49, 50, 51, 52, 53, 54, 55, 56, 57, 58, 59, 60, 61, 62, 63, 64, 65, 66, 67, 68, 69, 70, 71, 72, 73, 74, 75, 76, 77, 78, 79, 80, 81] (by decide +kernel) (by decide +kernel)
set_option maxRecDepth 20000 in
theorem gX9_round_X9_goRound : GoodIn wsX9_round (wsV RX9 223 RX9 yX9_goRound wsX9_goRound) := goodIn_app (goodIn_of _ (by decide +kernel)) ggX9_round_X9_goRound
theorem dX9_round_0 : decode cX9_round 0 = .ok (.aload_n 0, 1) := by decide +kernel
theorem dX9_round_1 : decode cX9_round 1 = .ok (.invokevirtual 220, 3) := by decide +kernel
theorem dX9_round_4 : decode cX9_round 4 = .ok (.iconst 2, 1) := by decide +kernel
theorem dX9_round_5 : decode cX9_round 5 = .ok (.if_icmp .ge 6, 3) := by decide +kernel
theorem dX9_round_8 : decode cX9_round 8 = .ok (.ldc 213, 2) := by decide +kernel
theorem dX9_round_10 : decode cX9_round 10 = .ok (.ireturn, 1) := by decide +kernel
theorem dX9_round_11 : decode cX9_round 11 = .ok (.aload_n 0, 1) := by decide +kernel
theorem dX9_round_12 : decode cX9_round 12 = .ok (.invokevirtual 217, 3) := by decide +kernel
theorem dX9_round_15 : decode cX9_round 15 = .ok (.aload_n 0, 1) := by decide +kernel
theorem dX9_round_16 : decode cX9_round 16 = .ok (.invokevirtual 223, 3) := by decide +kernel
theorem dX9_round_19 : decode cX9_round 19 = .ok (.aload_n 0, 1) := by decide +kernel
theorem dX9_round_20 : decode cX9_round 20 = .ok (.invokevirtual 220, 3) := by decide +kernel
theorem dX9_round_23 : decode cX9_round 23 = .ok (.ireturn, 1) := by decide +kernel
set_option maxRecDepth 20000 in
theorem ggX9_hand_X9_isPlayer : GoodIn wsX9_hand wsX9_isPlayer := goodIn_r _ [8, 9, 10, 11, 7, 12, 3, 13, 14, 15, 22, 23, 24, 25, 26, 27, 28, 29, 30, 31, 32, 33, 34, 35, 36, 37, 38, 39, 40, 41, 42, 43, 44, 45, 46, 47, 48, 49, 50, 51, 52] (by decide +kernel) (by decide +kernel)
set_option maxRecDepth 20000 in
theorem gX9_hand_X9_isPlayer : GoodIn wsX9_hand (wsV RX9 210 RX9 yX9_isPlayer wsX9_isPlayer) := goodIn_app (goodIn_of _ (by decide +kernel)) ggX9_hand_X9_isPlayer
set_option maxRecDepth 20000 in
theorem ggX9_hand_X9_in : GoodIn wsX9_hand wsX9_in := goodIn_r _ [15] (by decide +kernel) (by decide +kernel)
set_option maxRecDepth 20000 in
theorem gX9_hand_X9_in : GoodIn wsX9_hand (va_wsS RX9 69 yX9_in wsX9_in) := goodIn_app (goodIn_of _ (by decide +kernel)) ggX9_hand_X9_in
set_option maxRecDepth 20000 in
theorem ggX9_hand_X9_keepAct : GoodIn wsX9_hand wsX9_keepAct := goodIn_r _ [19, 20, 21, 3, 22, 23, 24, 25, 26, 27, 28, 29, 30, 31, 32, 33, 34, 35, 36, 37, 38, 39, 40, 41, 42, 43, 44, 45, 46, 47, 48, 49, 50, 51, 52] (by decide +kernel) (by decide +kernel)
set_option maxRecDepth 20000 in
theorem gX9_hand_X9_keepAct : GoodIn wsX9_hand (wsV RX9 217 RX9 yX9_keepAct wsX9_keepAct) := goodIn_app (goodIn_of _ (by decide +kernel)) ggX9_hand_X9_keepAct
theorem dX9_hand_0 : decode cX9_hand 0 = .ok (.aload_n 0, 1) := by decide +kernel
theorem dX9_hand_1 : decode cX9_hand 1 = .ok (.iload_n 1, 1) := by decide +kernel
theorem dX9_hand_2 : decode cX9_hand 2 = .ok (.invokevirtual 210, 3) := by decide +kernel
theorem dX9_hand_5 : decode cX9_hand 5 = .ok (.ifCond .eq 15, 3) := by decide +kernel
theorem dX9_hand_8 : decode cX9_hand 8 = .ok (.iload_n 2, 1) := by decide +kernel
theorem dX9_hand_9 : decode cX9_hand 9 = .ok (.i2l, 1) := by decide +kernel
theorem dX9_hand_10 : decode cX9_hand 10 = .ok (.lconst 0, 1) := by decide +kernel
theorem dX9_hand_11 : decode cX9_hand 11 = .ok (.ldc2_w 77, 3) := by decide +kernel
theorem dX9_hand_14 : decode cX9_hand 14 = .ok (.invokestatic 69, 3) := by decide +kernel
theorem dX9_hand_17 : decode cX9_hand 17 = .ok (.ifCond .ne 6, 3) := by decide +kernel
theorem dX9_hand_20 : decode cX9_hand 20 = .ok (.ldc 79, 2) := by decide +kernel
theorem dX9_hand_22 : decode cX9_hand 22 = .ok (.ireturn, 1) := by decide +kernel
theorem dX9_hand_23 : decode cX9_hand 23 = .ok (.aload_n 0, 1) := by decide +kernel
theorem dX9_hand_24 : decode cX9_hand 24 = .ok (.invokevirtual 217, 3) := by decide +kernel
theorem dX9_hand_27 : decode cX9_hand 27 = .ok (.aload_n 0, 1) := by decide +kernel
theorem dX9_hand_28 : decode cX9_hand 28 = .ok (.getfield 7, 3) := by decide +kernel
theorem dX9_hand_31 : decode cX9_hand 31 = .ok (.bipush 9, 2) := by decide +kernel
theorem dX9_hand_33 : decode cX9_hand 33 = .ok (.iload_n 1, 1) := by decide +kernel
theorem dX9_hand_34 : decode cX9_hand 34 = .ok (.iadd, 1) := by decide +kernel
theorem dX9_hand_35 : decode cX9_hand 35 = .ok (.iaload, 1) := by decide +kernel
theorem dX9_hand_36 : decode cX9_hand 36 = .ok (.istore_n 3, 1) := by decide +kernel
theorem dX9_hand_37 : decode cX9_hand 37 = .ok (.aload_n 0, 1) := by decide +kernel
theorem dX9_hand_38 : decode cX9_hand 38 = .ok (.getfield 7, 3) := by decide +kernel
theorem dX9_hand_41 : decode cX9_hand 41 = .ok (.bipush 9, 2) := by decide +kernel
theorem dX9_hand_43 : decode cX9_hand 43 = .ok (.iload_n 1, 1) := by decide +kernel
theorem dX9_hand_44 : decode cX9_hand 44 = .ok (.iadd, 1) := by decide +kernel
theorem dX9_hand_45 : decode cX9_hand 45 = .ok (.iload_n 2, 1) := by decide +kernel
theorem dX9_hand_46 : decode cX9_hand 46 = .ok (.iastore, 1) := by decide +kernel
theorem dX9_hand_47 : decode cX9_hand 47 = .ok (.iload_n 3, 1) := by decide +kernel
theorem dX9_hand_48 : decode cX9_hand 48 = .ok (.ireturn, 1) := by decide +kernel
set_option maxRecDepth 20000 in
theorem ggX9_hands_X9_players : GoodIn wsX9_hands wsX9_players := goodIn_r _ [12, 7, 36, 37, 38, 39, 40, 41, 42, 43, 44, 45, 46, 47, 48, 49, 50, 51, 52, 53, 54, 55, 56, 57, 58, 59, 60, 61, 62, 63, 64, 65, 66] (by decide +kernel) (by decide +kernel)
set_option maxRecDepth 20000 in
theorem gX9_hands_X9_players : GoodIn wsX9_hands (wsV RX9 174 RX9 yX9_players wsX9_players) := goodIn_app (goodIn_of _ (by decide +kernel)) ggX9_hands_X9_players
set_option maxRecDepth 20000 in
theorem ggX9_hands_X9_isRow : GoodIn wsX9_hands wsX9_isRow := goodIn_r _ [15, 16, 17, 18, 11, 19] (by decide +kernel) (by decide +kernel)
set_option maxRecDepth 20000 in
theorem gX9_hands_X9_isRow : GoodIn wsX9_hands (va_wsS RX9 73 yX9_isRow wsX9_isRow) := goodIn_app (goodIn_of _ (by decide +kernel)) ggX9_hands_X9_isRow
set_option maxRecDepth 20000 in
theorem ggX9_hands_X9_found : GoodIn wsX9_hands wsX9_found := goodIn_r _ [23, 24, 25, 36, 37, 38, 39, 40, 41, 42, 43, 44, 45, 46, 47, 48, 49, 50, 51, 52, 53, 54, 55, 56, 57, 58, 59, 60, 61, 62, 63, 64, 65, 66] (by decide +kernel) (by decide +kernel)
set_option maxRecDepth 20000 in
theorem gX9_hands_X9_found : GoodIn wsX9_hands (wsV RX9 80 RX9 yX9_found wsX9_found) := goodIn_app (goodIn_of _ (by decide +kernel)) ggX9_hands_X9_found
set_option maxRecDepth 20000 in
theorem ggX9_hands_X9_in : GoodIn wsX9_hands wsX9_in := goodIn_r _ [19] (by decide +kernel) (by decide +kernel)
set_option maxRecDepth 20000 in
theorem gX9_hands_X9_in : GoodIn wsX9_hands (va_wsS RX9 69 yX9_in wsX9_in) := goodIn_app (goodIn_of _ (by decide +kernel)) ggX9_hands_X9_in
set_option maxRecDepth 20000 in
theorem ggX9_hands_X9_keepAct : GoodIn wsX9_hands wsX9_keepAct := goodIn_r _ [29, 30, 31, 7, 36, 37, 38, 39, 40, 41, 42, 43, 44, 45, 46, 47, 48, 49, 50, 51, 52, 53, 54, 55, 56, 57, 58, 59, 60, 61, 62, 63, 64, 65, 66] (by decide +kernel) (by decide +kernel)
set_option maxRecDepth 20000 in
theorem gX9_hands_X9_keepAct : GoodIn wsX9_hands (wsV RX9 217 RX9 yX9_keepAct wsX9_keepAct) := goodIn_app (goodIn_of _ (by decide +kernel)) ggX9_hands_X9_keepAct
set_option maxRecDepth 20000 in
theorem ggX9_hands_X9_well : GoodIn wsX9_hands wsX9_well := goodIn_r _ [35, 24, 36, 37, 38, 39, 40, 41, 42, 43, 44, 45, 46, 47, 48, 49, 50, 51, 52, 53, 54, 55, 56, 57, 58, 59, 60, 61, 62, 63, 64, 65, 66] (by decide +kernel) (by decide +kernel)
set_option maxRecDepth 20000 in
theorem gX9_hands_X9_well : GoodIn wsX9_hands (wsV RX9 84 RX9 yX9_well wsX9_well) := goodIn_app (goodIn_of _ (by decide +kernel)) ggX9_hands_X9_well
theorem dX9_hands_0 : decode cX9_hands 0 = .ok (.aload_n 0, 1) := by decide +kernel
