set_option maxRecDepth 20000 in
theorem ggX8_init_X5_init : GoodIn wsX8_init wsX5_init := goodIn_r _ [41, 42, 2, 3, 33, 43, 44, 45, 103, 104, 105] (by decide +kernel) (by decide +kernel)
set_option maxRecDepth 20000 in
theorem gX8_init_X5_init : GoodIn wsX8_init (wsX5_init) := ggX8_init_X5_init
set_option maxRecDepth 20000 in
theorem ggX8_init_X6_init : GoodIn wsX8_init wsX6_init := goodIn_r _ [48, 49, 2, 3, 50, 51, 52, 118, 119] (by decide +kernel) (by decide +kernel)
set_option maxRecDepth 20000 in
theorem gX8_init_X6_init : GoodIn wsX8_init (wsX6_init) := ggX8_init_X6_init
set_option maxRecDepth 20000 in
theorem ggX8_init_X4_init : GoodIn wsX8_init wsX4_init := goodIn_r _ [55, 56, 2, 3, 57, 58, 59, 60, 61, 120, 121, 122, 123, 124] (by decide +kernel) (by decide +kernel)
set_option maxRecDepth 20000 in
theorem gX8_init_X4_init : GoodIn wsX8_init (wsX4_init) := ggX8_init_X4_init
set_option maxRecDepth 20000 in
theorem ggX8_init_X3_init : GoodIn wsX8_init wsX3_init := goodIn_r _ [64, 65, 2, 3, 66, 67, 68, 33, 69, 70, 71, 72, 73, 74, 75, 76, 77, 78, 125, 126, 127, 128, 129, 130, 131, 143, 144, 145] (by decide +kernel) (by decide +kernel)
set_option maxRecDepth 20000 in
theorem gX8_init_X3_init : GoodIn wsX8_init (wsX3_init) := ggX8_init_X3_init
set_option maxRecDepth 20000 in
theorem ggX8_init_X0_init : GoodIn wsX8_init wsX0_init := goodIn_r _ [81, 82, 2, 3, 33, 83, 84, 85, 132, 133, 134] (by decide +kernel) (by decide +kernel)
set_option maxRecDepth 20000 in
theorem gX8_init_X0_init : GoodIn wsX8_init (wsX0_init) := ggX8_init_X0_init
set_option maxRecDepth 20000 in
theorem ggX8_init_X7_init : GoodIn wsX8_init wsX7_init := goodIn_r _ [88, 89, 2, 3, 33, 90, 91, 92, 93, 94, 95, 73, 74, 96, 76, 77, 78, 135, 136, 137, 138, 139, 140, 143, 144, 145] (by decide +kernel) (by decide +kernel)
set_option maxRecDepth 20000 in
theorem gX8_init_X7_init : GoodIn wsX8_init (wsX7_init) := ggX8_init_X7_init
set_option maxRecDepth 20000 in
theorem ggX8_init_X1_init : GoodIn wsX8_init wsX1_init := goodIn_r _ [99, 100, 2, 3, 33, 101, 102, 141, 142] (by decide +kernel) (by decide +kernel)
set_option maxRecDepth 20000 in
theorem gX8_init_X1_init : GoodIn wsX8_init (wsX1_init) := ggX8_init_X1_init
theorem dX8_init_0 : decode cX8_init 0 = .ok (.aload_n 0, 1) := by decide +kernel
theorem dX8_init_1 : decode cX8_init 1 = .ok (.invokespecial 1, 3) := by decide +kernel
theorem dX8_init_4 : decode cX8_init 4 = .ok (.aload_n 0, 1) := by decide +kernel
theorem dX8_init_5 : decode cX8_init 5 = .ok (.new 7, 3) := by decide +kernel
theorem dX8_init_8 : decode cX8_init 8 = .ok (.dup, 1) := by decide +kernel
theorem dX8_init_9 : decode cX8_init 9 = .ok (.invokespecial 9, 3) := by decide +kernel
theorem dX8_init_12 : decode cX8_init 12 = .ok (.putfield 10, 3) := by decide +kernel
theorem dX8_init_15 : decode cX8_init 15 = .ok (.aload_n 0, 1) := by decide +kernel
theorem dX8_init_16 : decode cX8_init 16 = .ok (.new 16, 3) := by decide +kernel
theorem dX8_init_19 : decode cX8_init 19 = .ok (.dup, 1) := by decide +kernel
theorem dX8_init_20 : decode cX8_init 20 = .ok (.invokespecial 18, 3) := by decide +kernel
theorem dX8_init_23 : decode cX8_init 23 = .ok (.putfield 19, 3) := by decide +kernel
theorem dX8_init_26 : decode cX8_init 26 = .ok (.aload_n 0, 1) := by decide +kernel
theorem dX8_init_27 : decode cX8_init 27 = .ok (.new 23, 3) := by decide +kernel
theorem dX8_init_30 : decode cX8_init 30 = .ok (.dup, 1) := by decide +kernel
theorem dX8_init_31 : decode cX8_init 31 = .ok (.aload_n 0, 1) := by decide +kernel
theorem dX8_init_32 : decode cX8_init 32 = .ok (.getfield 19, 3) := by decide +kernel
theorem dX8_init_35 : decode cX8_init 35 = .ok (.invokespecial 25, 3) := by decide +kernel
theorem dX8_init_38 : decode cX8_init 38 = .ok (.putfield 28, 3) := by decide +kernel
theorem dX8_init_41 : decode cX8_init 41 = .ok (.aload_n 0, 1) := by decide +kernel
theorem dX8_init_42 : decode cX8_init 42 = .ok (.new 32, 3) := by decide +kernel
theorem dX8_init_45 : decode cX8_init 45 = .ok (.dup, 1) := by decide +kernel
theorem dX8_init_46 : decode cX8_init 46 = .ok (.invokespecial 34, 3) := by decide +kernel
theorem dX8_init_49 : decode cX8_init 49 = .ok (.putfield 35, 3) := by decide +kernel
theorem dX8_init_52 : decode cX8_init 52 = .ok (.aload_n 0, 1) := by decide +kernel
theorem dX8_init_53 : decode cX8_init 53 = .ok (.new 32, 3) := by decide +kernel
theorem dX8_init_56 : decode cX8_init 56 = .ok (.dup, 1) := by decide +kernel
theorem dX8_init_57 : decode cX8_init 57 = .ok (.invokespecial 34, 3) := by decide +kernel
theorem dX8_init_60 : decode cX8_init 60 = .ok (.putfield 39, 3) := by decide +kernel
theorem dX8_init_63 : decode cX8_init 63 = .ok (.aload_n 0, 1) := by decide +kernel
theorem dX8_init_64 : decode cX8_init 64 = .ok (.new 42, 3) := by decide +kernel
theorem dX8_init_67 : decode cX8_init 67 = .ok (.dup, 1) := by decide +kernel
theorem dX8_init_68 : decode cX8_init 68 = .ok (.invokespecial 44, 3) := by decide +kernel
theorem dX8_init_71 : decode cX8_init 71 = .ok (.putfield 45, 3) := by decide +kernel
theorem dX8_init_74 : decode cX8_init 74 = .ok (.aload_n 0, 1) := by decide +kernel
theorem dX8_init_75 : decode cX8_init 75 = .ok (.new 49, 3) := by decide +kernel
theorem dX8_init_78 : decode cX8_init 78 = .ok (.dup, 1) := by decide +kernel
theorem dX8_init_79 : decode cX8_init 79 = .ok (.invokespecial 51, 3) := by decide +kernel
theorem dX8_init_82 : decode cX8_init 82 = .ok (.putfield 52, 3) := by decide +kernel
theorem dX8_init_85 : decode cX8_init 85 = .ok (.aload_n 0, 1) := by decide +kernel
theorem dX8_init_86 : decode cX8_init 86 = .ok (.new 56, 3) := by decide +kernel
theorem dX8_init_89 : decode cX8_init 89 = .ok (.dup, 1) := by decide +kernel
theorem dX8_init_90 : decode cX8_init 90 = .ok (.invokespecial 58, 3) := by decide +kernel
theorem dX8_init_93 : decode cX8_init 93 = .ok (.putfield 59, 3) := by decide +kernel
theorem dX8_init_96 : decode cX8_init 96 = .ok (.aload_n 0, 1) := by decide +kernel
theorem dX8_init_97 : decode cX8_init 97 = .ok (.bipush 54, 2) := by decide +kernel
theorem dX8_init_99 : decode cX8_init 99 = .ok (.newarray .int, 2) := by decide +kernel
theorem dX8_init_101 : decode cX8_init 101 = .ok (.putfield 63, 3) := by decide +kernel
theorem dX8_init_104 : decode cX8_init 104 = .ok (.aload_n 0, 1) := by decide +kernel
theorem dX8_init_105 : decode cX8_init 105 = .ok (.iconst 2, 1) := by decide +kernel
theorem dX8_init_106 : decode cX8_init 106 = .ok (.newarray .boolean, 2) := by decide +kernel
theorem dX8_init_108 : decode cX8_init 108 = .ok (.putfield 67, 3) := by decide +kernel
theorem dX8_init_111 : decode cX8_init 111 = .ok (.aload_n 0, 1) := by decide +kernel
theorem dX8_init_112 : decode cX8_init 112 = .ok (.iconst 0, 1) := by decide +kernel
theorem dX8_init_113 : decode cX8_init 113 = .ok (.putfield 71, 3) := by decide +kernel
theorem dX8_init_116 : decode cX8_init 116 = .ok (.aload_n 0, 1) := by decide +kernel
theorem dX8_init_117 : decode cX8_init 117 = .ok (.iconst 0, 1) := by decide +kernel
theorem dX8_init_118 : decode cX8_init 118 = .ok (.putfield 75, 3) := by decide +kernel
theorem dX8_init_121 : decode cX8_init 121 = .ok (.return_, 1) := by decide +kernel
set_option maxRecDepth 20000 in
theorem ggX8_row_X8_isRow : GoodIn wsX8_row wsX8_isRow := goodIn_r _ [6] (by decide +kernel) (by decide +kernel)
set_option maxRecDepth 20000 in
theorem gX8_row_X8_isRow : GoodIn wsX8_row (va_wsS RX8 78 yX8_isRow wsX8_isRow) := goodIn_app (goodIn_of _ (by decide +kernel)) ggX8_row_X8_isRow
set_option maxRecDepth 20000 in
theorem ggX8_row_X8_found : GoodIn wsX8_row wsX8_found := goodIn_r _ [10, 11, 12, 29, 30, 31, 32, 33, 34, 35, 36, 37, 38, 39, 40] (by decide +kernel) (by decide +kernel)
set_option maxRecDepth 20000 in
theorem gX8_row_X8_found : GoodIn wsX8_row (wsV RX8 83 RX8 yX8_found wsX8_found) := goodIn_app (goodIn_of _ (by decide +kernel)) ggX8_row_X8_found
set_option maxRecDepth 20000 in
theorem ggX8_row_X5_make : GoodIn wsX8_row wsX5_make := goodIn_r _ [17, 18, 19, 20, 21, 22, 23, 16, 24, 41, 42, 43] (by decide +kernel) (by decide +kernel)
set_option maxRecDepth 20000 in
theorem gX8_row_X5_make : GoodIn wsX8_row (wsV RX8 87 RX5 yX5_make wsX5_make) := goodIn_app (goodIn_of _ (by decide +kernel)) ggX8_row_X5_make
set_option maxRecDepth 20000 in
theorem ggX8_row_X8_fine : GoodIn wsX8_row wsX8_fine := goodIn_r _ [28, 11, 29, 30, 31, 32, 33, 34, 35, 36, 37, 38, 39, 40] (by decide +kernel) (by decide +kernel)
set_option maxRecDepth 20000 in
theorem gX8_row_X8_fine : GoodIn wsX8_row (wsV RX8 91 RX8 yX8_fine wsX8_fine) := goodIn_app (goodIn_of _ (by decide +kernel)) ggX8_row_X8_fine
theorem dX8_row_0 : decode cX8_row 0 = .ok (.iload_n 1, 1) := by decide +kernel
theorem dX8_row_1 : decode cX8_row 1 = .ok (.invokestatic 78, 3) := by decide +kernel
theorem dX8_row_4 : decode cX8_row 4 = .ok (.ifCond .eq 18, 3) := by decide +kernel
theorem dX8_row_7 : decode cX8_row 7 = .ok (.iload_n 2, 1) := by decide +kernel
theorem dX8_row_8 : decode cX8_row 8 = .ok (.ifCond .lt 14, 3) := by decide +kernel
theorem dX8_row_11 : decode cX8_row 11 = .ok (.iload_n 2, 1) := by decide +kernel
theorem dX8_row_12 : decode cX8_row 12 = .ok (.iconst 2, 1) := by decide +kernel
theorem dX8_row_13 : decode cX8_row 13 = .ok (.if_icmp .gt 9, 3) := by decide +kernel
theorem dX8_row_16 : decode cX8_row 16 = .ok (.iload_n 3, 1) := by decide +kernel
theorem dX8_row_17 : decode cX8_row 17 = .ok (.bipush 40, 2) := by decide +kernel
theorem dX8_row_19 : decode cX8_row 19 = .ok (.if_icmp .le 6, 3) := by decide +kernel
theorem dX8_row_22 : decode cX8_row 22 = .ok (.ldc 82, 2) := by decide +kernel
theorem dX8_row_24 : decode cX8_row 24 = .ok (.ireturn, 1) := by decide +kernel
theorem dX8_row_25 : decode cX8_row 25 = .ok (.iload_n 3, 1) := by decide +kernel
theorem dX8_row_26 : decode cX8_row 26 = .ok (.ifCond .ge 9, 3) := by decide +kernel
theorem dX8_row_29 : decode cX8_row 29 = .ok (.aload_n 0, 1) := by decide +kernel
theorem dX8_row_30 : decode cX8_row 30 = .ok (.iconst 4, 1) := by decide +kernel
theorem dX8_row_31 : decode cX8_row 31 = .ok (.invokevirtual 83, 3) := by decide +kernel
theorem dX8_row_34 : decode cX8_row 34 = .ok (.ireturn, 1) := by decide +kernel
theorem dX8_row_35 : decode cX8_row 35 = .ok (.aload_n 0, 1) := by decide +kernel
theorem dX8_row_36 : decode cX8_row 36 = .ok (.getfield 10, 3) := by decide +kernel
theorem dX8_row_39 : decode cX8_row 39 = .ok (.iload_n 1, 1) := by decide +kernel
theorem dX8_row_40 : decode cX8_row 40 = .ok (.iload_n 2, 1) := by decide +kernel
theorem dX8_row_41 : decode cX8_row 41 = .ok (.iload_n 3, 1) := by decide +kernel
theorem dX8_row_42 : decode cX8_row 42 = .ok (.invokevirtual 87, 3) := by decide +kernel
theorem dX8_row_45 : decode cX8_row 45 = .ok (.aload_n 0, 1) := by decide +kernel
theorem dX8_row_46 : decode cX8_row 46 = .ok (.iload_n 3, 1) := by decide +kernel
theorem dX8_row_47 : decode cX8_row 47 = .ok (.invokevirtual 91, 3) := by decide +kernel
theorem dX8_row_50 : decode cX8_row 50 = .ok (.ireturn, 1) := by decide +kernel
set_option maxRecDepth 20000 in
theorem ggX8_set_X8_isRow : GoodIn wsX8_set wsX8_isRow := goodIn_r _ [7] (by decide +kernel) (by decide +kernel)
set_option maxRecDepth 20000 in
theorem gX8_set_X8_isRow : GoodIn wsX8_set (va_wsS RX8 78 yX8_isRow wsX8_isRow) := goodIn_app (goodIn_of _ (by decide +kernel)) ggX8_set_X8_isRow
set_option maxRecDepth 20000 in
theorem ggX8_set_X5_isMissing : GoodIn wsX8_set wsX5_isMissing := goodIn_r _ [12, 13, 45, 46, 47] (by decide +kernel) (by decide +kernel)
set_option maxRecDepth 20000 in
theorem gX8_set_X5_isMissing : GoodIn wsX8_set (wsV RX8 94 RX5 yX5_isMissing wsX5_isMissing) := goodIn_app (goodIn_of _ (by decide +kernel)) ggX8_set_X5_isMissing
set_option maxRecDepth 20000 in
theorem ggX8_set_X8_found : GoodIn wsX8_set wsX8_found := goodIn_r _ [17, 18, 19, 33, 34, 35, 36, 37, 38, 39, 40, 41, 42, 43, 44] (by decide +kernel) (by decide +kernel)
set_option maxRecDepth 20000 in
theorem gX8_set_X8_found : GoodIn wsX8_set (wsV RX8 83 RX8 yX8_found wsX8_found) := goodIn_app (goodIn_of _ (by decide +kernel)) ggX8_set_X8_found
set_option maxRecDepth 20000 in
theorem ggX8_set_X5_put : GoodIn wsX8_set wsX5_put := goodIn_r _ [23, 13, 24, 25, 26, 27, 11, 28, 45, 46, 47] (by decide +kernel) (by decide +kernel)
set_option maxRecDepth 20000 in
theorem gX8_set_X5_put : GoodIn wsX8_set (wsV RX8 100 RX5 yX5_put wsX5_put) := goodIn_app (goodIn_of _ (by decide +kernel)) ggX8_set_X5_put
set_option maxRecDepth 20000 in
theorem ggX8_set_X8_fine : GoodIn wsX8_set wsX8_fine := goodIn_r _ [32, 18, 33, 34, 35, 36, 37, 38, 39, 40, 41, 42, 43, 44] (by decide +kernel) (by decide +kernel)
set_option maxRecDepth 20000 in
theorem gX8_set_X8_fine : GoodIn wsX8_set (wsV RX8 91 RX8 yX8_fine wsX8_fine) := goodIn_app (goodIn_of _ (by decide +kernel)) ggX8_set_X8_fine
theorem dX8_set_0 : decode cX8_set 0 = .ok (.iload_n 1, 1) := by decide +kernel
theorem dX8_set_1 : decode cX8_set 1 = .ok (.invokestatic 78, 3) := by decide +kernel
theorem dX8_set_4 : decode cX8_set 4 = .ok (.ifCond .ne 6, 3) := by decide +kernel
theorem dX8_set_7 : decode cX8_set 7 = .ok (.ldc 82, 2) := by decide +kernel
theorem dX8_set_9 : decode cX8_set 9 = .ok (.ireturn, 1) := by decide +kernel
theorem dX8_set_10 : decode cX8_set 10 = .ok (.aload_n 0, 1) := by decide +kernel
theorem dX8_set_11 : decode cX8_set 11 = .ok (.getfield 10, 3) := by decide +kernel
theorem dX8_set_14 : decode cX8_set 14 = .ok (.iload_n 1, 1) := by decide +kernel
theorem dX8_set_15 : decode cX8_set 15 = .ok (.invokevirtual 94, 3) := by decide +kernel
theorem dX8_set_18 : decode cX8_set 18 = .ok (.ifCond .eq 9, 3) := by decide +kernel
theorem dX8_set_21 : decode cX8_set 21 = .ok (.aload_n 0, 1) := by decide +kernel
theorem dX8_set_22 : decode cX8_set 22 = .ok (.iconst 1, 1) := by decide +kernel
theorem dX8_set_23 : decode cX8_set 23 = .ok (.invokevirtual 83, 3) := by decide +kernel
theorem dX8_set_26 : decode cX8_set 26 = .ok (.ireturn, 1) := by decide +kernel
theorem dX8_set_27 : decode cX8_set 27 = .ok (.iload_n 2, 1) := by decide +kernel
theorem dX8_set_28 : decode cX8_set 28 = .ok (.ifCond .lt 16, 3) := by decide +kernel
theorem dX8_set_31 : decode cX8_set 31 = .ok (.iload_n 2, 1) := by decide +kernel
theorem dX8_set_32 : decode cX8_set 32 = .ok (.aload_n 0, 1) := by decide +kernel
theorem dX8_set_33 : decode cX8_set 33 = .ok (.getfield 10, 3) := by decide +kernel
theorem dX8_set_36 : decode cX8_set 36 = .ok (.getfield 97, 3) := by decide +kernel
theorem dX8_set_39 : decode cX8_set 39 = .ok (.iload_n 1, 1) := by decide +kernel
theorem dX8_set_40 : decode cX8_set 40 = .ok (.iaload, 1) := by decide +kernel
theorem dX8_set_41 : decode cX8_set 41 = .ok (.if_icmp .lt 9, 3) := by decide +kernel
theorem dX8_set_44 : decode cX8_set 44 = .ok (.aload_n 0, 1) := by decide +kernel
theorem dX8_set_45 : decode cX8_set 45 = .ok (.iconst 2, 1) := by decide +kernel
theorem dX8_set_46 : decode cX8_set 46 = .ok (.invokevirtual 83, 3) := by decide +kernel
theorem dX8_set_49 : decode cX8_set 49 = .ok (.ireturn, 1) := by decide +kernel
theorem dX8_set_50 : decode cX8_set 50 = .ok (.aload_n 0, 1) := by decide +kernel
theorem dX8_set_51 : decode cX8_set 51 = .ok (.aload_n 0, 1) := by decide +kernel
theorem dX8_set_52 : decode cX8_set 52 = .ok (.getfield 10, 3) := by decide +kernel
theorem dX8_set_55 : decode cX8_set 55 = .ok (.iload_n 1, 1) := by decide +kernel
theorem dX8_set_56 : decode cX8_set 56 = .ok (.iload_n 2, 1) := by decide +kernel
theorem dX8_set_57 : decode cX8_set 57 = .ok (.iload_n 3, 1) := by decide +kernel
theorem dX8_set_58 : decode cX8_set 58 = .ok (.invokevirtual 100, 3) := by decide +kernel
theorem dX8_set_61 : decode cX8_set 61 = .ok (.invokevirtual 91, 3) := by decide +kernel
theorem dX8_set_64 : decode cX8_set 64 = .ok (.ireturn, 1) := by decide +kernel
set_option maxRecDepth 20000 in
theorem ggX8_copy_X8_isRow : GoodIn wsX8_copy wsX8_isRow := goodIn_r _ [12] (by decide +kernel) (by decide +kernel)
set_option maxRecDepth 20000 in
theorem gX8_copy_X8_isRow : GoodIn wsX8_copy (va_wsS RX8 78 yX8_isRow wsX8_isRow) := goodIn_app (goodIn_of _ (by decide +kernel)) ggX8_copy_X8_isRow
set_option maxRecDepth 20000 in
theorem ggX8_copy_X5_isMissing : GoodIn wsX8_copy wsX5_isMissing := goodIn_r _ [17, 18, 50, 51, 52] (by decide +kernel) (by decide +kernel)
set_option maxRecDepth 20000 in
theorem gX8_copy_X5_isMissing : GoodIn wsX8_copy (wsV RX8 94 RX5 yX5_isMissing wsX5_isMissing) := goodIn_app (goodIn_of _ (by decide +kernel)) ggX8_copy_X5_isMissing
set_option maxRecDepth 20000 in
theorem ggX8_copy_X8_found : GoodIn wsX8_copy wsX8_found := goodIn_r _ [22, 23, 24, 38, 39, 40, 41, 42, 43, 44, 45, 46, 47, 48, 49] (by decide +kernel) (by decide +kernel)
set_option maxRecDepth 20000 in
theorem gX8_copy_X8_found : GoodIn wsX8_copy (wsV RX8 83 RX8 yX8_found wsX8_found) := goodIn_app (goodIn_of _ (by decide +kernel)) ggX8_copy_X8_found
set_option maxRecDepth 20000 in
theorem ggX8_copy_X5_hasPlaces : GoodIn wsX8_copy wsX5_hasPlaces := goodIn_r _ [28, 29, 50, 51, 52] (by decide +kernel) (by decide +kernel)
set_option maxRecDepth 20000 in
theorem gX8_copy_X5_hasPlaces : GoodIn wsX8_copy (wsV RX8 107 RX5 yX5_hasPlaces wsX5_hasPlaces) := goodIn_app (goodIn_of _ (by decide +kernel)) ggX8_copy_X5_hasPlaces
set_option maxRecDepth 20000 in
theorem ggX8_copy_X5_placeOf : GoodIn wsX8_copy wsX5_placeOf := goodIn_r _ [33] (by decide +kernel) (by decide +kernel)
set_option maxRecDepth 20000 in
theorem gX8_copy_X5_placeOf : GoodIn wsX8_copy (wsV RX8 114 RX5 yX5_placeOf wsX5_placeOf) := goodIn_app (goodIn_of _ (by decide +kernel)) ggX8_copy_X5_placeOf
set_option maxRecDepth 20000 in
theorem ggX8_copy_X8_fine : GoodIn wsX8_copy wsX8_fine := goodIn_r _ [37, 23, 38, 39, 40, 41, 42, 43, 44, 45, 46, 47, 48, 49] (by decide +kernel) (by decide +kernel)
set_option maxRecDepth 20000 in
theorem gX8_copy_X8_fine : GoodIn wsX8_copy (wsV RX8 91 RX8 yX8_fine wsX8_fine) := goodIn_app (goodIn_of _ (by decide +kernel)) ggX8_copy_X8_fine
theorem dX8_copy_0 : decode cX8_copy 0 = .ok (.iload_n 1, 1) := by decide +kernel
theorem dX8_copy_1 : decode cX8_copy 1 = .ok (.invokestatic 78, 3) := by decide +kernel
theorem dX8_copy_4 : decode cX8_copy 4 = .ok (.ifCond .eq 10, 3) := by decide +kernel
theorem dX8_copy_7 : decode cX8_copy 7 = .ok (.iload_n 3, 1) := by decide +kernel
theorem dX8_copy_8 : decode cX8_copy 8 = .ok (.invokestatic 78, 3) := by decide +kernel
theorem dX8_copy_11 : decode cX8_copy 11 = .ok (.ifCond .ne 6, 3) := by decide +kernel
theorem dX8_copy_14 : decode cX8_copy 14 = .ok (.ldc 82, 2) := by decide +kernel
theorem dX8_copy_16 : decode cX8_copy 16 = .ok (.ireturn, 1) := by decide +kernel
theorem dX8_copy_17 : decode cX8_copy 17 = .ok (.aload_n 0, 1) := by decide +kernel
theorem dX8_copy_18 : decode cX8_copy 18 = .ok (.getfield 10, 3) := by decide +kernel
theorem dX8_copy_21 : decode cX8_copy 21 = .ok (.iload_n 1, 1) := by decide +kernel
theorem dX8_copy_22 : decode cX8_copy 22 = .ok (.invokevirtual 94, 3) := by decide +kernel
theorem dX8_copy_25 : decode cX8_copy 25 = .ok (.ifCond .ne 14, 3) := by decide +kernel
theorem dX8_copy_28 : decode cX8_copy 28 = .ok (.aload_n 0, 1) := by decide +kernel
theorem dX8_copy_29 : decode cX8_copy 29 = .ok (.getfield 10, 3) := by decide +kernel
theorem dX8_copy_32 : decode cX8_copy 32 = .ok (.iload_n 3, 1) := by decide +kernel
theorem dX8_copy_33 : decode cX8_copy 33 = .ok (.invokevirtual 94, 3) := by decide +kernel
theorem dX8_copy_36 : decode cX8_copy 36 = .ok (.ifCond .eq 9, 3) := by decide +kernel
theorem dX8_copy_39 : decode cX8_copy 39 = .ok (.aload_n 0, 1) := by decide +kernel
theorem dX8_copy_40 : decode cX8_copy 40 = .ok (.iconst 1, 1) := by decide +kernel
theorem dX8_copy_41 : decode cX8_copy 41 = .ok (.invokevirtual 83, 3) := by decide +kernel
theorem dX8_copy_44 : decode cX8_copy 44 = .ok (.ireturn, 1) := by decide +kernel
theorem dX8_copy_45 : decode cX8_copy 45 = .ok (.aload_n 0, 1) := by decide +kernel
theorem dX8_copy_46 : decode cX8_copy 46 = .ok (.getfield 10, 3) := by decide +kernel
theorem dX8_copy_49 : decode cX8_copy 49 = .ok (.getfield 104, 3) := by decide +kernel
theorem dX8_copy_52 : decode cX8_copy 52 = .ok (.iload_n 1, 1) := by decide +kernel
theorem dX8_copy_53 : decode cX8_copy 53 = .ok (.iaload, 1) := by decide +kernel
theorem dX8_copy_54 : decode cX8_copy 54 = .ok (.aload_n 0, 1) := by decide +kernel
theorem dX8_copy_55 : decode cX8_copy 55 = .ok (.getfield 10, 3) := by decide +kernel
theorem dX8_copy_58 : decode cX8_copy 58 = .ok (.getfield 104, 3) := by decide +kernel
theorem dX8_copy_61 : decode cX8_copy 61 = .ok (.iload_n 3, 1) := by decide +kernel
theorem dX8_copy_62 : decode cX8_copy 62 = .ok (.iaload, 1) := by decide +kernel
theorem dX8_copy_63 : decode cX8_copy 63 = .ok (.if_icmp .eq 9, 3) := by decide +kernel
theorem dX8_copy_66 : decode cX8_copy 66 = .ok (.aload_n 0, 1) := by decide +kernel
theorem dX8_copy_67 : decode cX8_copy 67 = .ok (.iconst 5, 1) := by decide +kernel
theorem dX8_copy_68 : decode cX8_copy 68 = .ok (.invokevirtual 83, 3) := by decide +kernel
theorem dX8_copy_71 : decode cX8_copy 71 = .ok (.ireturn, 1) := by decide +kernel
theorem dX8_copy_72 : decode cX8_copy 72 = .ok (.aload_n 0, 1) := by decide +kernel
theorem dX8_copy_73 : decode cX8_copy 73 = .ok (.getfield 10, 3) := by decide +kernel
theorem dX8_copy_76 : decode cX8_copy 76 = .ok (.iload_n 1, 1) := by decide +kernel
theorem dX8_copy_77 : decode cX8_copy 77 = .ok (.iload_n 2, 1) := by decide +kernel
theorem dX8_copy_78 : decode cX8_copy 78 = .ok (.iload 5, 2) := by decide +kernel
theorem dX8_copy_80 : decode cX8_copy 80 = .ok (.invokevirtual 107, 3) := by decide +kernel
theorem dX8_copy_83 : decode cX8_copy 83 = .ok (.ifCond .eq 18, 3) := by decide +kernel
theorem dX8_copy_86 : decode cX8_copy 86 = .ok (.aload_n 0, 1) := by decide +kernel
theorem dX8_copy_87 : decode cX8_copy 87 = .ok (.getfield 10, 3) := by decide +kernel
theorem dX8_copy_90 : decode cX8_copy 90 = .ok (.iload_n 3, 1) := by decide +kernel
theorem dX8_copy_91 : decode cX8_copy 91 = .ok (.iload 4, 2) := by decide +kernel
theorem dX8_copy_93 : decode cX8_copy 93 = .ok (.iload 5, 2) := by decide +kernel
theorem dX8_copy_95 : decode cX8_copy 95 = .ok (.invokevirtual 107, 3) := by decide +kernel
theorem dX8_copy_98 : decode cX8_copy 98 = .ok (.ifCond .ne 9, 3) := by decide +kernel
theorem dX8_copy_101 : decode cX8_copy 101 = .ok (.aload_n 0, 1) := by decide +kernel
theorem dX8_copy_102 : decode cX8_copy 102 = .ok (.iconst 2, 1) := by decide +kernel
theorem dX8_copy_103 : decode cX8_copy 103 = .ok (.invokevirtual 83, 3) := by decide +kernel
theorem dX8_copy_106 : decode cX8_copy 106 = .ok (.ireturn, 1) := by decide +kernel
theorem dX8_copy_107 : decode cX8_copy 107 = .ok (.aload_n 0, 1) := by decide +kernel
theorem dX8_copy_108 : decode cX8_copy 108 = .ok (.getfield 10, 3) := by decide +kernel
theorem dX8_copy_111 : decode cX8_copy 111 = .ok (.getfield 111, 3) := by decide +kernel
theorem dX8_copy_114 : decode cX8_copy 114 = .ok (.aload_n 0, 1) := by decide +kernel
theorem dX8_copy_115 : decode cX8_copy 115 = .ok (.getfield 10, 3) := by decide +kernel
theorem dX8_copy_118 : decode cX8_copy 118 = .ok (.iload_n 1, 1) := by decide +kernel
theorem dX8_copy_119 : decode cX8_copy 119 = .ok (.iload_n 2, 1) := by decide +kernel
theorem dX8_copy_120 : decode cX8_copy 120 = .ok (.invokevirtual 114, 3) := by decide +kernel
theorem dX8_copy_123 : decode cX8_copy 123 = .ok (.aload_n 0, 1) := by decide +kernel
theorem dX8_copy_124 : decode cX8_copy 124 = .ok (.getfield 10, 3) := by decide +kernel
theorem dX8_copy_127 : decode cX8_copy 127 = .ok (.getfield 111, 3) := by decide +kernel
theorem dX8_copy_130 : decode cX8_copy 130 = .ok (.aload_n 0, 1) := by decide +kernel
theorem dX8_copy_131 : decode cX8_copy 131 = .ok (.getfield 10, 3) := by decide +kernel
theorem dX8_copy_134 : decode cX8_copy 134 = .ok (.iload_n 3, 1) := by decide +kernel
theorem dX8_copy_135 : decode cX8_copy 135 = .ok (.iload 4, 2) := by decide +kernel
theorem dX8_copy_137 : decode cX8_copy 137 = .ok (.invokevirtual 114, 3) := by decide +kernel
theorem dX8_copy_140 : decode cX8_copy 140 = .ok (.iload 5, 2) := by decide +kernel
theorem dX8_copy_142 : decode cX8_copy 142 = .ok (.invokestatic 118, 3) := by decide +kernel
theorem dX8_copy_145 : decode cX8_copy 145 = .ok (.aload_n 0, 1) := by decide +kernel
theorem dX8_copy_146 : decode cX8_copy 146 = .ok (.iload 5, 2) := by decide +kernel
theorem dX8_copy_148 : decode cX8_copy 148 = .ok (.invokevirtual 91, 3) := by decide +kernel
theorem dX8_copy_151 : decode cX8_copy 151 = .ok (.ireturn, 1) := by decide +kernel
set_option maxRecDepth 20000 in
theorem ggX8_drop_X8_isRow : GoodIn wsX8_drop wsX8_isRow := goodIn_r _ [6] (by decide +kernel) (by decide +kernel)
set_option maxRecDepth 20000 in
theorem gX8_drop_X8_isRow : GoodIn wsX8_drop (va_wsS RX8 78 yX8_isRow wsX8_isRow) := goodIn_app (goodIn_of _ (by decide +kernel)) ggX8_drop_X8_isRow
set_option maxRecDepth 20000 in
theorem ggX8_drop_X5_isMissing : GoodIn wsX8_drop wsX5_isMissing := goodIn_r _ [11, 12, 40, 41, 42] (by decide +kernel) (by decide +kernel)
set_option maxRecDepth 20000 in
theorem gX8_drop_X5_isMissing : GoodIn wsX8_drop (wsV RX8 94 RX5 yX5_isMissing wsX5_isMissing) := goodIn_app (goodIn_of _ (by decide +kernel)) ggX8_drop_X5_isMissing
set_option maxRecDepth 20000 in
theorem ggX8_drop_X8_found : GoodIn wsX8_drop wsX8_found := goodIn_r _ [16, 17, 18, 28, 29, 30, 31, 32, 33, 34, 35, 36, 37, 38, 39] (by decide +kernel) (by decide +kernel)
set_option maxRecDepth 20000 in
theorem gX8_drop_X8_found : GoodIn wsX8_drop (wsV RX8 83 RX8 yX8_found wsX8_found) := goodIn_app (goodIn_of _ (by decide +kernel)) ggX8_drop_X8_found
set_option maxRecDepth 20000 in
theorem ggX8_drop_X5_remove : GoodIn wsX8_drop wsX5_remove := goodIn_r _ [22, 23, 12, 40, 41, 42] (by decide +kernel) (by decide +kernel)
set_option maxRecDepth 20000 in
theorem gX8_drop_X5_remove : GoodIn wsX8_drop (wsV RX8 124 RX5 yX5_remove wsX5_remove) := goodIn_app (goodIn_of _ (by decide +kernel)) ggX8_drop_X5_remove
set_option maxRecDepth 20000 in
theorem ggX8_drop_X8_fine : GoodIn wsX8_drop wsX8_fine := goodIn_r _ [27, 17, 28, 29, 30, 31, 32, 33, 34, 35, 36, 37, 38, 39] (by decide +kernel) (by decide +kernel)
set_option maxRecDepth 20000 in
theorem gX8_drop_X8_fine : GoodIn wsX8_drop (wsV RX8 91 RX8 yX8_fine wsX8_fine) := goodIn_app (goodIn_of _ (by decide +kernel)) ggX8_drop_X8_fine
theorem dX8_drop_0 : decode cX8_drop 0 = .ok (.iload_n 1, 1) := by decide +kernel
theorem dX8_drop_1 : decode cX8_drop 1 = .ok (.invokestatic 78, 3) := by decide +kernel
theorem dX8_drop_4 : decode cX8_drop 4 = .ok (.ifCond .ne 6, 3) := by decide +kernel
theorem dX8_drop_7 : decode cX8_drop 7 = .ok (.ldc 82, 2) := by decide +kernel
theorem dX8_drop_9 : decode cX8_drop 9 = .ok (.ireturn, 1) := by decide +kernel
theorem dX8_drop_10 : decode cX8_drop 10 = .ok (.aload_n 0, 1) := by decide +kernel
theorem dX8_drop_11 : decode cX8_drop 11 = .ok (.getfield 10, 3) := by decide +kernel
theorem dX8_drop_14 : decode cX8_drop 14 = .ok (.iload_n 1, 1) := by decide +kernel
theorem dX8_drop_15 : decode cX8_drop 15 = .ok (.invokevirtual 94, 3) := by decide +kernel
theorem dX8_drop_18 : decode cX8_drop 18 = .ok (.ifCond .eq 9, 3) := by decide +kernel
theorem dX8_drop_21 : decode cX8_drop 21 = .ok (.aload_n 0, 1) := by decide +kernel
theorem dX8_drop_22 : decode cX8_drop 22 = .ok (.iconst 1, 1) := by decide +kernel
theorem dX8_drop_23 : decode cX8_drop 23 = .ok (.invokevirtual 83, 3) := by decide +kernel
theorem dX8_drop_26 : decode cX8_drop 26 = .ok (.ireturn, 1) := by decide +kernel
theorem dX8_drop_27 : decode cX8_drop 27 = .ok (.aload_n 0, 1) := by decide +kernel
theorem dX8_drop_28 : decode cX8_drop 28 = .ok (.aload_n 0, 1) := by decide +kernel
theorem dX8_drop_29 : decode cX8_drop 29 = .ok (.getfield 10, 3) := by decide +kernel
theorem dX8_drop_32 : decode cX8_drop 32 = .ok (.iload_n 1, 1) := by decide +kernel
theorem dX8_drop_33 : decode cX8_drop 33 = .ok (.invokevirtual 124, 3) := by decide +kernel
theorem dX8_drop_36 : decode cX8_drop 36 = .ok (.invokevirtual 91, 3) := by decide +kernel
theorem dX8_drop_39 : decode cX8_drop 39 = .ok (.ireturn, 1) := by decide +kernel
theorem dX8_isRow_0 : decode cX8_isRow 0 = .ok (.iload_n 0, 1) := by decide +kernel
theorem dX8_isRow_1 : decode cX8_isRow 1 = .ok (.ifCond .lt 13, 3) := by decide +kernel
theorem dX8_isRow_4 : decode cX8_isRow 4 = .ok (.iload_n 0, 1) := by decide +kernel
theorem dX8_isRow_5 : decode cX8_isRow 5 = .ok (.bipush 8, 2) := by decide +kernel
theorem dX8_isRow_7 : decode cX8_isRow 7 = .ok (.if_icmp .ge 7, 3) := by decide +kernel
theorem dX8_isRow_10 : decode cX8_isRow 10 = .ok (.iconst 1, 1) := by decide +kernel
theorem dX8_isRow_11 : decode cX8_isRow 11 = .ok (.goto 4, 3) := by decide +kernel
theorem dX8_isRow_14 : decode cX8_isRow 14 = .ok (.iconst 0, 1) := by decide +kernel
theorem dX8_isRow_15 : decode cX8_isRow 15 = .ok (.ireturn, 1) := by decide +kernel
theorem dX8_found_0 : decode cX8_found 0 = .ok (.aload_n 0, 1) := by decide +kernel
theorem dX8_found_1 : decode cX8_found 1 = .ok (.iload_n 1, 1) := by decide +kernel
theorem dX8_found_2 : decode cX8_found 2 = .ok (.putfield 75, 3) := by decide +kernel
theorem dX8_found_5 : decode cX8_found 5 = .ok (.ldc 127, 2) := by decide +kernel
theorem dX8_found_7 : decode cX8_found 7 = .ok (.iload_n 1, 1) := by decide +kernel
theorem dX8_found_8 : decode cX8_found 8 = .ok (.isub, 1) := by decide +kernel
theorem dX8_found_9 : decode cX8_found 9 = .ok (.ireturn, 1) := by decide +kernel
theorem dX8_fine_0 : decode cX8_fine 0 = .ok (.aload_n 0, 1) := by decide +kernel
theorem dX8_fine_1 : decode cX8_fine 1 = .ok (.iconst 0, 1) := by decide +kernel
theorem dX8_fine_2 : decode cX8_fine 2 = .ok (.putfield 75, 3) := by decide +kernel
theorem dX8_fine_5 : decode cX8_fine 5 = .ok (.iload_n 1, 1) := by decide +kernel
theorem dX8_fine_6 : decode cX8_fine 6 = .ok (.ireturn, 1) := by decide +kernel
set_option maxRecDepth 20000 in
theorem ggX8_feed_X6_hasRoom : GoodIn wsX8_feed wsX6_hasRoom := goodIn_r _ [9, 10, 28, 29] (by decide +kernel) (by decide +kernel)
set_option maxRecDepth 20000 in
theorem gX8_feed_X6_hasRoom : GoodIn wsX8_feed (wsV RX8 128 RX6 yX6_hasRoom wsX6_hasRoom) := goodIn_app (goodIn_of _ (by decide +kernel)) ggX8_feed_X6_hasRoom
set_option maxRecDepth 20000 in
theorem ggX8_feed_X6_add : GoodIn wsX8_feed wsX6_add := goodIn_r _ [14, 15, 10, 28, 29] (by decide +kernel) (by decide +kernel)
set_option maxRecDepth 20000 in
theorem gX8_feed_X6_add : GoodIn wsX8_feed (wsV RX8 132 RX6 yX6_add wsX6_add) := goodIn_app (goodIn_of _ (by decide +kernel)) ggX8_feed_X6_add
theorem dX8_feed_0 : decode cX8_feed 0 = .ok (.iload_n 3, 1) := by decide +kernel
theorem dX8_feed_1 : decode cX8_feed 1 = .ok (.iconst 1, 1) := by decide +kernel
theorem dX8_feed_2 : decode cX8_feed 2 = .ok (.if_icmp .lt 9, 3) := by decide +kernel
theorem dX8_feed_5 : decode cX8_feed 5 = .ok (.iload_n 3, 1) := by decide +kernel
theorem dX8_feed_6 : decode cX8_feed 6 = .ok (.bipush 8, 2) := by decide +kernel
theorem dX8_feed_8 : decode cX8_feed 8 = .ok (.if_icmp .le 6, 3) := by decide +kernel
theorem dX8_feed_11 : decode cX8_feed 11 = .ok (.ldc 82, 2) := by decide +kernel
theorem dX8_feed_13 : decode cX8_feed 13 = .ok (.ireturn, 1) := by decide +kernel
theorem dX8_feed_14 : decode cX8_feed 14 = .ok (.aload_n 0, 1) := by decide +kernel
theorem dX8_feed_15 : decode cX8_feed 15 = .ok (.getfield 19, 3) := by decide +kernel
theorem dX8_feed_18 : decode cX8_feed 18 = .ok (.iload_n 3, 1) := by decide +kernel
theorem dX8_feed_19 : decode cX8_feed 19 = .ok (.invokevirtual 128, 3) := by decide +kernel
theorem dX8_feed_22 : decode cX8_feed 22 = .ok (.ifCond .ne 6, 3) := by decide +kernel
theorem dX8_feed_25 : decode cX8_feed 25 = .ok (.ldc 131, 2) := by decide +kernel
theorem dX8_feed_27 : decode cX8_feed 27 = .ok (.ireturn, 1) := by decide +kernel
theorem dX8_feed_28 : decode cX8_feed 28 = .ok (.aload_n 0, 1) := by decide +kernel
theorem dX8_feed_29 : decode cX8_feed 29 = .ok (.getfield 19, 3) := by decide +kernel
theorem dX8_feed_32 : decode cX8_feed 32 = .ok (.lload_n 1, 1) := by decide +kernel
theorem dX8_feed_33 : decode cX8_feed 33 = .ok (.iload_n 3, 1) := by decide +kernel
theorem dX8_feed_34 : decode cX8_feed 34 = .ok (.invokevirtual 132, 3) := by decide +kernel
theorem dX8_feed_37 : decode cX8_feed 37 = .ok (.aload_n 0, 1) := by decide +kernel
theorem dX8_feed_38 : decode cX8_feed 38 = .ok (.getfield 19, 3) := by decide +kernel
theorem dX8_feed_41 : decode cX8_feed 41 = .ok (.getfield 136, 3) := by decide +kernel
theorem dX8_feed_44 : decode cX8_feed 44 = .ok (.ireturn, 1) := by decide +kernel
set_option maxRecDepth 20000 in
theorem ggX8_hall_X4_read : GoodIn wsX8_hall wsX4_read := goodIn_r _ [15, 16, 17, 18, 19, 20, 21, 22, 23, 24, 25, 26, 27, 28, 14, 29, 30, 31, 32, 33, 34, 35, 36, 37, 38, 39, 40, 41, 42, 43, 44, 45, 46, 47, 48, 49, 50, 51, 52, 53, 54, 55, 56, 57, 58, 59, 60, 61, 62, 63, 64, 65, 66, 67, 68, 69, 70, 71, 72, 73, 74, 75, 76, 77, 78, 79, 80, 81, 82, 83, 84, 85, 86, 87, 88, 89, 90, 91, 92, 93, 94, 95, 96, 97, 98, 99, 100, 101, 102, 103, 104, 105, 106, 107, 108, 109, 110, 111, 112, 113, 114, 115, 116, 117, 118, 119, 120, 121, 122, 123, 124, 125, 126, 127, 128, 129, 154, 155, 156, 157, 158, 159, 160, 161, 162, 163, 164, 165, 152, 153] (by decide +kernel) (by decide +kernel)
set_option maxRecDepth 20000 in
theorem gX8_hall_X4_read : GoodIn wsX8_hall (wsV RX8 139 RX4 yX4_read wsX4_read) := goodIn_app (goodIn_of _ (by decide +kernel)) ggX8_hall_X4_read
set_option maxRecDepth 20000 in
theorem ggX8_hall_X3_become : GoodIn wsX8_hall wsX3_become := goodIn_r _ [133, 23, 24, 25, 127, 128, 129, 159, 160, 161, 162, 163, 164, 165] (by decide +kernel) (by decide +kernel)
set_option maxRecDepth 20000 in
theorem gX8_hall_X3_become : GoodIn wsX8_hall (wsV RX8 147 RX3 yX3_become wsX3_become) := goodIn_app (goodIn_of _ (by decide +kernel)) ggX8_hall_X3_become
set_option maxRecDepth 20000 in
theorem ggX8_hall_X0_forget : GoodIn wsX8_hall wsX0_forget := goodIn_r _ [138, 139, 166, 167, 168] (by decide +kernel) (by decide +kernel)
set_option maxRecDepth 20000 in
theorem gX8_hall_X0_forget : GoodIn wsX8_hall (wsV RX8 151 RX0 yX0_forget wsX0_forget) := goodIn_app (goodIn_of _ (by decide +kernel)) ggX8_hall_X0_forget
theorem dX8_hall_0 : decode cX8_hall 0 = .ok (.aload_n 0, 1) := by decide +kernel
theorem dX8_hall_1 : decode cX8_hall 1 = .ok (.getfield 28, 3) := by decide +kernel
theorem dX8_hall_4 : decode cX8_hall 4 = .ok (.aload_n 0, 1) := by decide +kernel
theorem dX8_hall_5 : decode cX8_hall 5 = .ok (.getfield 39, 3) := by decide +kernel
theorem dX8_hall_8 : decode cX8_hall 8 = .ok (.invokevirtual 139, 3) := by decide +kernel
theorem dX8_hall_11 : decode cX8_hall 11 = .ok (.istore_n 1, 1) := by decide +kernel
theorem dX8_hall_12 : decode cX8_hall 12 = .ok (.aload_n 0, 1) := by decide +kernel
theorem dX8_hall_13 : decode cX8_hall 13 = .ok (.getfield 19, 3) := by decide +kernel
theorem dX8_hall_16 : decode cX8_hall 16 = .ok (.iconst 0, 1) := by decide +kernel
theorem dX8_hall_17 : decode cX8_hall 17 = .ok (.putfield 136, 3) := by decide +kernel
theorem dX8_hall_20 : decode cX8_hall 20 = .ok (.iload_n 1, 1) := by decide +kernel
theorem dX8_hall_21 : decode cX8_hall 21 = .ok (.ifCond .eq 19, 3) := by decide +kernel
theorem dX8_hall_24 : decode cX8_hall 24 = .ok (.aload_n 0, 1) := by decide +kernel
theorem dX8_hall_25 : decode cX8_hall 25 = .ok (.iload_n 1, 1) := by decide +kernel
theorem dX8_hall_26 : decode cX8_hall 26 = .ok (.putfield 71, 3) := by decide +kernel
theorem dX8_hall_29 : decode cX8_hall 29 = .ok (.ldc 143, 2) := by decide +kernel
theorem dX8_hall_31 : decode cX8_hall 31 = .ok (.aload_n 0, 1) := by decide +kernel
theorem dX8_hall_32 : decode cX8_hall 32 = .ok (.getfield 28, 3) := by decide +kernel
theorem dX8_hall_35 : decode cX8_hall 35 = .ok (.getfield 144, 3) := by decide +kernel
theorem dX8_hall_38 : decode cX8_hall 38 = .ok (.isub, 1) := by decide +kernel
theorem dX8_hall_39 : decode cX8_hall 39 = .ok (.ireturn, 1) := by decide +kernel
theorem dX8_hall_40 : decode cX8_hall 40 = .ok (.aload_n 0, 1) := by decide +kernel
theorem dX8_hall_41 : decode cX8_hall 41 = .ok (.getfield 35, 3) := by decide +kernel
theorem dX8_hall_44 : decode cX8_hall 44 = .ok (.aload_n 0, 1) := by decide +kernel
theorem dX8_hall_45 : decode cX8_hall 45 = .ok (.getfield 39, 3) := by decide +kernel
theorem dX8_hall_48 : decode cX8_hall 48 = .ok (.invokevirtual 147, 3) := by decide +kernel
theorem dX8_hall_51 : decode cX8_hall 51 = .ok (.aload_n 0, 1) := by decide +kernel
theorem dX8_hall_52 : decode cX8_hall 52 = .ok (.getfield 45, 3) := by decide +kernel
theorem dX8_hall_55 : decode cX8_hall 55 = .ok (.invokevirtual 151, 3) := by decide +kernel
theorem dX8_hall_58 : decode cX8_hall 58 = .ok (.aload_n 0, 1) := by decide +kernel
theorem dX8_hall_59 : decode cX8_hall 59 = .ok (.getfield 35, 3) := by decide +kernel
theorem dX8_hall_62 : decode cX8_hall 62 = .ok (.getfield 154, 3) := by decide +kernel
theorem dX8_hall_65 : decode cX8_hall 65 = .ok (.ireturn, 1) := by decide +kernel
theorem dX8_fault_0 : decode cX8_fault 0 = .ok (.aload_n 0, 1) := by decide +kernel
theorem dX8_fault_1 : decode cX8_fault 1 = .ok (.getfield 71, 3) := by decide +kernel
theorem dX8_fault_4 : decode cX8_fault 4 = .ok (.ireturn, 1) := by decide +kernel
set_option maxRecDepth 20000 in
theorem ggX8_bout_X8_isPair : GoodIn wsX8_bout wsX8_isPair := goodIn_r _ [12, 13, 14, 15, 11, 16, 2, 17, 81, 82, 83, 84, 85, 86, 87, 88, 89, 90, 91, 92, 93, 94, 95, 96, 97, 98, 99] (by decide +kernel) (by decide +kernel)
set_option maxRecDepth 20000 in
theorem gX8_bout_X8_isPair : GoodIn wsX8_bout (wsV RX8 157 RX8 yX8_isPair wsX8_isPair) := goodIn_app (goodIn_of _ (by decide +kernel)) ggX8_bout_X8_isPair
set_option maxRecDepth 20000 in
theorem ggX8_bout_X3_leads : GoodIn wsX8_bout wsX3_leads := goodIn_r _ [22, 23, 93, 94, 95, 96, 97, 98, 99] (by decide +kernel) (by decide +kernel)
set_option maxRecDepth 20000 in
theorem gX8_bout_X3_leads : GoodIn wsX8_bout (wsV RX8 161 RX3 yX3_leads wsX3_leads) := goodIn_app (goodIn_of _ (by decide +kernel)) ggX8_bout_X3_leads
set_option maxRecDepth 20000 in
theorem ggX8_bout_X0_keep : GoodIn wsX8_bout wsX0_keep := goodIn_r _ [28, 29, 30, 31, 32, 33, 34, 35, 36, 37, 38, 21, 39, 40, 41, 42, 43, 44, 23, 103, 104, 105, 93, 94, 95, 96, 97, 98, 99] (by decide +kernel) (by decide +kernel)
set_option maxRecDepth 20000 in
theorem gX8_bout_X0_keep : GoodIn wsX8_bout (wsV RX8 165 RX0 yX0_keep wsX0_keep) := goodIn_app (goodIn_of _ (by decide +kernel)) ggX8_bout_X0_keep
set_option maxRecDepth 20000 in
theorem ggX8_bout_X3_meet : GoodIn wsX8_bout wsX3_meet := goodIn_r _ [48, 44, 49, 50, 51, 40, 23, 52, 53, 54, 21, 55, 43, 56, 57, 58, 59, 60, 61, 62, 63, 64, 11, 65, 66, 67, 68, 69, 70, 71, 72, 73, 74, 75, 76, 77, 78, 79, 80, 93, 94, 95, 96, 97, 98, 99, 100, 101, 102] (by decide +kernel) (by decide +kernel)
set_option maxRecDepth 20000 in
theorem gX8_bout_X3_meet : GoodIn wsX8_bout (wsV RX8 168 RX3 yX3_meet wsX3_meet) := goodIn_app (goodIn_of _ (by decide +kernel)) ggX8_bout_X3_meet
theorem dX8_bout_0 : decode cX8_bout 0 = .ok (.aload_n 0, 1) := by decide +kernel
theorem dX8_bout_1 : decode cX8_bout 1 = .ok (.iload_n 1, 1) := by decide +kernel
theorem dX8_bout_2 : decode cX8_bout 2 = .ok (.iload_n 2, 1) := by decide +kernel
theorem dX8_bout_3 : decode cX8_bout 3 = .ok (.invokevirtual 157, 3) := by decide +kernel
theorem dX8_bout_6 : decode cX8_bout 6 = .ok (.ifCond .ne 6, 3) := by decide +kernel
theorem dX8_bout_9 : decode cX8_bout 9 = .ok (.ldc 82, 2) := by decide +kernel
theorem dX8_bout_11 : decode cX8_bout 11 = .ok (.ireturn, 1) := by decide +kernel
theorem dX8_bout_12 : decode cX8_bout 12 = .ok (.aload_n 0, 1) := by decide +kernel
theorem dX8_bout_13 : decode cX8_bout 13 = .ok (.getfield 35, 3) := by decide +kernel
theorem dX8_bout_16 : decode cX8_bout 16 = .ok (.iload_n 1, 1) := by decide +kernel
theorem dX8_bout_17 : decode cX8_bout 17 = .ok (.invokevirtual 161, 3) := by decide +kernel
theorem dX8_bout_20 : decode cX8_bout 20 = .ok (.ifCond .eq 14, 3) := by decide +kernel
theorem dX8_bout_23 : decode cX8_bout 23 = .ok (.aload_n 0, 1) := by decide +kernel
theorem dX8_bout_24 : decode cX8_bout 24 = .ok (.getfield 35, 3) := by decide +kernel
theorem dX8_bout_27 : decode cX8_bout 27 = .ok (.iload_n 2, 1) := by decide +kernel
theorem dX8_bout_28 : decode cX8_bout 28 = .ok (.invokevirtual 161, 3) := by decide +kernel
theorem dX8_bout_31 : decode cX8_bout 31 = .ok (.ifCond .ne 6, 3) := by decide +kernel
theorem dX8_bout_34 : decode cX8_bout 34 = .ok (.ldc 164, 2) := by decide +kernel
theorem dX8_bout_36 : decode cX8_bout 36 = .ok (.ireturn, 1) := by decide +kernel
theorem dX8_bout_37 : decode cX8_bout 37 = .ok (.aload_n 0, 1) := by decide +kernel
theorem dX8_bout_38 : decode cX8_bout 38 = .ok (.getfield 45, 3) := by decide +kernel
theorem dX8_bout_41 : decode cX8_bout 41 = .ok (.aload_n 0, 1) := by decide +kernel
theorem dX8_bout_42 : decode cX8_bout 42 = .ok (.getfield 35, 3) := by decide +kernel
theorem dX8_bout_45 : decode cX8_bout 45 = .ok (.invokevirtual 165, 3) := by decide +kernel
theorem dX8_bout_48 : decode cX8_bout 48 = .ok (.aload_n 0, 1) := by decide +kernel
theorem dX8_bout_49 : decode cX8_bout 49 = .ok (.getfield 35, 3) := by decide +kernel
theorem dX8_bout_52 : decode cX8_bout 52 = .ok (.iload_n 1, 1) := by decide +kernel
theorem dX8_bout_53 : decode cX8_bout 53 = .ok (.iload_n 2, 1) := by decide +kernel
theorem dX8_bout_54 : decode cX8_bout 54 = .ok (.invokevirtual 168, 3) := by decide +kernel
theorem dX8_bout_57 : decode cX8_bout 57 = .ok (.istore_n 3, 1) := by decide +kernel
theorem dX8_bout_58 : decode cX8_bout 58 = .ok (.aload_n 0, 1) := by decide +kernel
theorem dX8_bout_59 : decode cX8_bout 59 = .ok (.getfield 35, 3) := by decide +kernel
theorem dX8_bout_62 : decode cX8_bout 62 = .ok (.dup, 1) := by decide +kernel
theorem dX8_bout_63 : decode cX8_bout 63 = .ok (.getfield 171, 3) := by decide +kernel
theorem dX8_bout_66 : decode cX8_bout 66 = .ok (.aload_n 0, 1) := by decide +kernel
theorem dX8_bout_67 : decode cX8_bout 67 = .ok (.getfield 35, 3) := by decide +kernel
theorem dX8_bout_70 : decode cX8_bout 70 = .ok (.getfield 174, 3) := by decide +kernel
theorem dX8_bout_73 : decode cX8_bout 73 = .ok (.getfield 178, 3) := by decide +kernel
theorem dX8_bout_76 : decode cX8_bout 76 = .ok (.iadd, 1) := by decide +kernel
theorem dX8_bout_77 : decode cX8_bout 77 = .ok (.putfield 171, 3) := by decide +kernel
theorem dX8_bout_80 : decode cX8_bout 80 = .ok (.iload_n 3, 1) := by decide +kernel
theorem dX8_bout_81 : decode cX8_bout 81 = .ok (.ireturn, 1) := by decide +kernel
set_option maxRecDepth 20000 in
theorem ggX8_round_X3_leaders : GoodIn wsX8_round wsX3_leaders := goodIn_r _ [8, 9, 10, 11, 12, 7, 13, 14, 92, 93, 94, 95, 96, 97, 98] (by decide +kernel) (by decide +kernel)
set_option maxRecDepth 20000 in
theorem gX8_round_X3_leaders : GoodIn wsX8_round (wsV RX8 183 RX3 yX3_leaders wsX3_leaders) := goodIn_app (goodIn_of _ (by decide +kernel)) ggX8_round_X3_leaders
set_option maxRecDepth 20000 in
theorem ggX8_round_X0_keep : GoodIn wsX8_round wsX0_keep := goodIn_r _ [19, 20, 21, 22, 23, 24, 25, 26, 27, 28, 29, 7, 30, 9, 31, 32, 33, 34, 14, 99, 100, 101, 92, 93, 94, 95, 96, 97, 98] (by decide +kernel) (by decide +kernel)
set_option maxRecDepth 20000 in
theorem gX8_round_X0_keep : GoodIn wsX8_round (wsV RX8 165 RX0 yX0_keep wsX0_keep) := goodIn_app (goodIn_of _ (by decide +kernel)) ggX8_round_X0_keep
set_option maxRecDepth 20000 in
theorem ggX8_round_X3_playRound : GoodIn wsX8_round wsX3_playRound := goodIn_r _ [38, 9, 39, 40, 41, 42, 25, 43, 31, 32, 10, 11, 12, 7, 13, 14, 44, 45, 46, 47, 34, 48, 49, 50, 51, 52, 53, 33, 54, 55, 56, 57, 58, 59, 60, 61, 62, 63, 64, 65, 66, 67, 68, 69, 70, 71, 72, 73, 74, 75, 76, 77, 78, 79, 92, 93, 94, 95, 96, 97, 98, 102, 103, 104] (by decide +kernel) (by decide +kernel)
set_option maxRecDepth 20000 in
theorem gX8_round_X3_playRound : GoodIn wsX8_round (wsV RX8 187 RX3 yX3_playRound wsX3_playRound) := goodIn_app (goodIn_of _ (by decide +kernel)) ggX8_round_X3_playRound
theorem dX8_round_0 : decode cX8_round 0 = .ok (.aload_n 0, 1) := by decide +kernel
theorem dX8_round_1 : decode cX8_round 1 = .ok (.getfield 35, 3) := by decide +kernel
theorem dX8_round_4 : decode cX8_round 4 = .ok (.invokevirtual 183, 3) := by decide +kernel
theorem dX8_round_7 : decode cX8_round 7 = .ok (.iconst 2, 1) := by decide +kernel
theorem dX8_round_8 : decode cX8_round 8 = .ok (.if_icmp .ge 6, 3) := by decide +kernel
theorem dX8_round_11 : decode cX8_round 11 = .ok (.ldc 164, 2) := by decide +kernel
theorem dX8_round_13 : decode cX8_round 13 = .ok (.ireturn, 1) := by decide +kernel
theorem dX8_round_14 : decode cX8_round 14 = .ok (.aload_n 0, 1) := by decide +kernel
theorem dX8_round_15 : decode cX8_round 15 = .ok (.getfield 45, 3) := by decide +kernel
theorem dX8_round_18 : decode cX8_round 18 = .ok (.aload_n 0, 1) := by decide +kernel
theorem dX8_round_19 : decode cX8_round 19 = .ok (.getfield 35, 3) := by decide +kernel
theorem dX8_round_22 : decode cX8_round 22 = .ok (.invokevirtual 165, 3) := by decide +kernel
theorem dX8_round_25 : decode cX8_round 25 = .ok (.aload_n 0, 1) := by decide +kernel
theorem dX8_round_26 : decode cX8_round 26 = .ok (.getfield 35, 3) := by decide +kernel
theorem dX8_round_29 : decode cX8_round 29 = .ok (.invokevirtual 187, 3) := by decide +kernel
theorem dX8_round_32 : decode cX8_round 32 = .ok (.aload_n 0, 1) := by decide +kernel
theorem dX8_round_33 : decode cX8_round 33 = .ok (.getfield 35, 3) := by decide +kernel
theorem dX8_round_36 : decode cX8_round 36 = .ok (.invokevirtual 183, 3) := by decide +kernel
theorem dX8_round_39 : decode cX8_round 39 = .ok (.ireturn, 1) := by decide +kernel
set_option maxRecDepth 20000 in
theorem ggX8_hand_X8_isPlayer : GoodIn wsX8_hand wsX8_isPlayer := goodIn_r _ [9, 3, 10, 37, 38, 39, 40, 41, 42, 43, 44, 45, 46, 47, 48, 49, 50, 51, 52, 53, 54, 55] (by decide +kernel) (by decide +kernel)
set_option maxRecDepth 20000 in
theorem gX8_hand_X8_isPlayer : GoodIn wsX8_hand (wsV RX8 190 RX8 yX8_isPlayer wsX8_isPlayer) := goodIn_app (goodIn_of _ (by decide +kernel)) ggX8_hand_X8_isPlayer
set_option maxRecDepth 20000 in
theorem ggX8_hand_X8_isHand : GoodIn wsX8_hand wsX8_isHand := goodIn_r _ [13] (by decide +kernel) (by decide +kernel)
set_option maxRecDepth 20000 in
theorem gX8_hand_X8_isHand : GoodIn wsX8_hand (va_wsS RX8 193 yX8_isHand wsX8_isHand) := goodIn_app (goodIn_of _ (by decide +kernel)) ggX8_hand_X8_isHand
set_option maxRecDepth 20000 in
theorem ggX8_hand_X0_keep : GoodIn wsX8_hand wsX0_keep := goodIn_r _ [18, 19, 20, 21, 22, 23, 24, 25, 26, 27, 28, 29, 30, 31, 32, 33, 34, 35, 36, 56, 57, 58, 49, 50, 51, 52, 53, 54, 55] (by decide +kernel) (by decide +kernel)
set_option maxRecDepth 20000 in
theorem gX8_hand_X0_keep : GoodIn wsX8_hand (wsV RX8 165 RX0 yX0_keep wsX0_keep) := goodIn_app (goodIn_of _ (by decide +kernel)) ggX8_hand_X0_keep
theorem dX8_hand_0 : decode cX8_hand 0 = .ok (.aload_n 0, 1) := by decide +kernel
theorem dX8_hand_1 : decode cX8_hand 1 = .ok (.iload_n 1, 1) := by decide +kernel
theorem dX8_hand_2 : decode cX8_hand 2 = .ok (.invokevirtual 190, 3) := by decide +kernel
theorem dX8_hand_5 : decode cX8_hand 5 = .ok (.ifCond .eq 10, 3) := by decide +kernel
theorem dX8_hand_8 : decode cX8_hand 8 = .ok (.iload_n 2, 1) := by decide +kernel
theorem dX8_hand_9 : decode cX8_hand 9 = .ok (.invokestatic 193, 3) := by decide +kernel
theorem dX8_hand_12 : decode cX8_hand 12 = .ok (.ifCond .ne 6, 3) := by decide +kernel
theorem dX8_hand_15 : decode cX8_hand 15 = .ok (.ldc 82, 2) := by decide +kernel
theorem dX8_hand_17 : decode cX8_hand 17 = .ok (.ireturn, 1) := by decide +kernel
theorem dX8_hand_18 : decode cX8_hand 18 = .ok (.aload_n 0, 1) := by decide +kernel
theorem dX8_hand_19 : decode cX8_hand 19 = .ok (.getfield 45, 3) := by decide +kernel
theorem dX8_hand_22 : decode cX8_hand 22 = .ok (.aload_n 0, 1) := by decide +kernel
theorem dX8_hand_23 : decode cX8_hand 23 = .ok (.getfield 35, 3) := by decide +kernel
theorem dX8_hand_26 : decode cX8_hand 26 = .ok (.invokevirtual 165, 3) := by decide +kernel
theorem dX8_hand_29 : decode cX8_hand 29 = .ok (.aload_n 0, 1) := by decide +kernel
theorem dX8_hand_30 : decode cX8_hand 30 = .ok (.getfield 35, 3) := by decide +kernel
theorem dX8_hand_33 : decode cX8_hand 33 = .ok (.getfield 196, 3) := by decide +kernel
theorem dX8_hand_36 : decode cX8_hand 36 = .ok (.iload_n 1, 1) := by decide +kernel
theorem dX8_hand_37 : decode cX8_hand 37 = .ok (.iaload, 1) := by decide +kernel
theorem dX8_hand_38 : decode cX8_hand 38 = .ok (.istore_n 3, 1) := by decide +kernel
theorem dX8_hand_39 : decode cX8_hand 39 = .ok (.aload_n 0, 1) := by decide +kernel
theorem dX8_hand_40 : decode cX8_hand 40 = .ok (.getfield 35, 3) := by decide +kernel
theorem dX8_hand_43 : decode cX8_hand 43 = .ok (.getfield 196, 3) := by decide +kernel
theorem dX8_hand_46 : decode cX8_hand 46 = .ok (.iload_n 1, 1) := by decide +kernel
theorem dX8_hand_47 : decode cX8_hand 47 = .ok (.iload_n 2, 1) := by decide +kernel
theorem dX8_hand_48 : decode cX8_hand 48 = .ok (.iastore, 1) := by decide +kernel
theorem dX8_hand_49 : decode cX8_hand 49 = .ok (.iload_n 3, 1) := by decide +kernel
theorem dX8_hand_50 : decode cX8_hand 50 = .ok (.ireturn, 1) := by decide +kernel
set_option maxRecDepth 20000 in
theorem ggX8_hands_X3_isMissing : GoodIn wsX8_hands wsX3_isMissing := goodIn_r _ [12, 13, 87, 88, 89, 90, 91, 92, 93] (by decide +kernel) (by decide +kernel)
set_option maxRecDepth 20000 in
theorem gX8_hands_X3_isMissing : GoodIn wsX8_hands (wsV RX8 199 RX3 yX3_isMissing wsX3_isMissing) := goodIn_app (goodIn_of _ (by decide +kernel)) ggX8_hands_X3_isMissing
set_option maxRecDepth 20000 in
theorem ggX8_hands_X8_isRow : GoodIn wsX8_hands wsX8_isRow := goodIn_r _ [17] (by decide +kernel) (by decide +kernel)
set_option maxRecDepth 20000 in
theorem gX8_hands_X8_isRow : GoodIn wsX8_hands (va_wsS RX8 78 yX8_isRow wsX8_isRow) := goodIn_app (goodIn_of _ (by decide +kernel)) ggX8_hands_X8_isRow
set_option maxRecDepth 20000 in
theorem ggX8_hands_X5_isMissing : GoodIn wsX8_hands wsX5_isMissing := goodIn_r _ [22, 23, 84, 85, 86] (by decide +kernel) (by decide +kernel)
set_option maxRecDepth 20000 in
theorem gX8_hands_X5_isMissing : GoodIn wsX8_hands (wsV RX8 94 RX5 yX5_isMissing wsX5_isMissing) := goodIn_app (goodIn_of _ (by decide +kernel)) ggX8_hands_X5_isMissing
set_option maxRecDepth 20000 in
theorem ggX8_hands_X8_found : GoodIn wsX8_hands wsX8_found := goodIn_r _ [27, 28, 29, 72, 73, 74, 75, 76, 77, 78, 79, 80, 81, 82, 83] (by decide +kernel) (by decide +kernel)
set_option maxRecDepth 20000 in
theorem gX8_hands_X8_found : GoodIn wsX8_hands (wsV RX8 83 RX8 yX8_found wsX8_found) := goodIn_app (goodIn_of _ (by decide +kernel)) ggX8_hands_X8_found
set_option maxRecDepth 20000 in
theorem ggX8_hands_X5_itemOf : GoodIn wsX8_hands wsX5_itemOf := goodIn_r _ [33, 34, 35, 36, 37, 21, 38, 84, 85, 86] (by decide +kernel) (by decide +kernel)
set_option maxRecDepth 20000 in
theorem gX8_hands_X5_itemOf : GoodIn wsX8_hands (wsV RX8 202 RX5 yX5_itemOf wsX5_itemOf) := goodIn_app (goodIn_of _ (by decide +kernel)) ggX8_hands_X5_itemOf
set_option maxRecDepth 20000 in
theorem ggX8_hands_X8_isHand : GoodIn wsX8_hands wsX8_isHand := goodIn_r _ [41] (by decide +kernel) (by decide +kernel)
set_option maxRecDepth 20000 in
theorem gX8_hands_X8_isHand : GoodIn wsX8_hands (va_wsS RX8 193 yX8_isHand wsX8_isHand) := goodIn_app (goodIn_of _ (by decide +kernel)) ggX8_hands_X8_isHand
set_option maxRecDepth 20000 in
theorem ggX8_hands_X0_keep : GoodIn wsX8_hands wsX0_keep := goodIn_r _ [46, 47, 48, 49, 50, 51, 52, 53, 54, 55, 56, 11, 57, 13, 58, 59, 60, 61, 62, 94, 95, 96, 87, 88, 89, 90, 91, 92, 93] (by decide +kernel) (by decide +kernel)
set_option maxRecDepth 20000 in
theorem gX8_hands_X0_keep : GoodIn wsX8_hands (wsV RX8 165 RX0 yX0_keep wsX0_keep) := goodIn_app (goodIn_of _ (by decide +kernel)) ggX8_hands_X0_keep
set_option maxRecDepth 20000 in
theorem ggX8_hands_X8_takeHands : GoodIn wsX8_hands wsX8_takeHands := goodIn_r _ [66, 1, 6, 4, 67, 30, 31, 32, 21, 33, 34, 35, 36, 37, 38, 72, 73, 74, 75, 76, 77, 78, 79, 80, 81, 82, 83, 87, 88, 89, 90, 91, 92, 93, 84, 85, 86] (by decide +kernel) (by decide +kernel)
set_option maxRecDepth 20000 in
theorem gX8_hands_X8_takeHands : GoodIn wsX8_hands (wsV RX8 205 RX8 yX8_takeHands wsX8_takeHands) := goodIn_app (goodIn_of _ (by decide +kernel)) ggX8_hands_X8_takeHands
set_option maxRecDepth 20000 in
theorem ggX8_hands_X8_fine : GoodIn wsX8_hands wsX8_fine := goodIn_r _ [71, 28, 72, 73, 74, 75, 76, 77, 78, 79, 80, 81, 82, 83] (by decide +kernel) (by decide +kernel)
set_option maxRecDepth 20000 in
theorem gX8_hands_X8_fine : GoodIn wsX8_hands (wsV RX8 91 RX8 yX8_fine wsX8_fine) := goodIn_app (goodIn_of _ (by decide +kernel)) ggX8_hands_X8_fine
theorem dX8_hands_0 : decode cX8_hands 0 = .ok (.aload_n 0, 1) := by decide +kernel
theorem dX8_hands_1 : decode cX8_hands 1 = .ok (.getfield 35, 3) := by decide +kernel
theorem dX8_hands_4 : decode cX8_hands 4 = .ok (.invokevirtual 199, 3) := by decide +kernel
theorem dX8_hands_7 : decode cX8_hands 7 = .ok (.ifCond .eq 6, 3) := by decide +kernel
theorem dX8_hands_10 : decode cX8_hands 10 = .ok (.ldc 164, 2) := by decide +kernel
theorem dX8_hands_12 : decode cX8_hands 12 = .ok (.ireturn, 1) := by decide +kernel
theorem dX8_hands_13 : decode cX8_hands 13 = .ok (.iload_n 1, 1) := by decide +kernel
theorem dX8_hands_14 : decode cX8_hands 14 = .ok (.invokestatic 78, 3) := by decide +kernel
theorem dX8_hands_17 : decode cX8_hands 17 = .ok (.ifCond .ne 6, 3) := by decide +kernel
theorem dX8_hands_20 : decode cX8_hands 20 = .ok (.ldc 82, 2) := by decide +kernel
theorem dX8_hands_22 : decode cX8_hands 22 = .ok (.ireturn, 1) := by decide +kernel
theorem dX8_hands_23 : decode cX8_hands 23 = .ok (.aload_n 0, 1) := by decide +kernel
theorem dX8_hands_24 : decode cX8_hands 24 = .ok (.getfield 10, 3) := by decide +kernel
theorem dX8_hands_27 : decode cX8_hands 27 = .ok (.iload_n 1, 1) := by decide +kernel
theorem dX8_hands_28 : decode cX8_hands 28 = .ok (.invokevirtual 94, 3) := by decide +kernel
theorem dX8_hands_31 : decode cX8_hands 31 = .ok (.ifCond .eq 9, 3) := by decide +kernel
theorem dX8_hands_34 : decode cX8_hands 34 = .ok (.aload_n 0, 1) := by decide +kernel
theorem dX8_hands_35 : decode cX8_hands 35 = .ok (.iconst 1, 1) := by decide +kernel
theorem dX8_hands_36 : decode cX8_hands 36 = .ok (.invokevirtual 83, 3) := by decide +kernel
theorem dX8_hands_39 : decode cX8_hands 39 = .ok (.ireturn, 1) := by decide +kernel
theorem dX8_hands_40 : decode cX8_hands 40 = .ok (.aload_n 0, 1) := by decide +kernel
theorem dX8_hands_41 : decode cX8_hands 41 = .ok (.getfield 10, 3) := by decide +kernel
theorem dX8_hands_44 : decode cX8_hands 44 = .ok (.getfield 97, 3) := by decide +kernel
theorem dX8_hands_47 : decode cX8_hands 47 = .ok (.iload_n 1, 1) := by decide +kernel
theorem dX8_hands_48 : decode cX8_hands 48 = .ok (.iaload, 1) := by decide +kernel
theorem dX8_hands_49 : decode cX8_hands 49 = .ok (.aload_n 0, 1) := by decide +kernel
theorem dX8_hands_50 : decode cX8_hands 50 = .ok (.getfield 35, 3) := by decide +kernel
theorem dX8_hands_53 : decode cX8_hands 53 = .ok (.getfield 154, 3) := by decide +kernel
theorem dX8_hands_56 : decode cX8_hands 56 = .ok (.if_icmp .ge 9, 3) := by decide +kernel
theorem dX8_hands_59 : decode cX8_hands 59 = .ok (.aload_n 0, 1) := by decide +kernel
theorem dX8_hands_60 : decode cX8_hands 60 = .ok (.iconst 2, 1) := by decide +kernel
theorem dX8_hands_61 : decode cX8_hands 61 = .ok (.invokevirtual 83, 3) := by decide +kernel
theorem dX8_hands_64 : decode cX8_hands 64 = .ok (.ireturn, 1) := by decide +kernel
theorem dX8_hands_65 : decode cX8_hands 65 = .ok (.iconst 0, 1) := by decide +kernel
theorem dX8_hands_66 : decode cX8_hands 66 = .ok (.istore_n 2, 1) := by decide +kernel
theorem dX8_hands_67 : decode cX8_hands 67 = .ok (.iload_n 2, 1) := by decide +kernel
theorem dX8_hands_68 : decode cX8_hands 68 = .ok (.aload_n 0, 1) := by decide +kernel
theorem dX8_hands_69 : decode cX8_hands 69 = .ok (.getfield 35, 3) := by decide +kernel
theorem dX8_hands_72 : decode cX8_hands 72 = .ok (.getfield 154, 3) := by decide +kernel
theorem dX8_hands_75 : decode cX8_hands 75 = .ok (.if_icmp .ge 27, 3) := by decide +kernel
theorem dX8_hands_78 : decode cX8_hands 78 = .ok (.aload_n 0, 1) := by decide +kernel
theorem dX8_hands_79 : decode cX8_hands 79 = .ok (.getfield 10, 3) := by decide +kernel
theorem dX8_hands_82 : decode cX8_hands 82 = .ok (.iload_n 1, 1) := by decide +kernel
theorem dX8_hands_83 : decode cX8_hands 83 = .ok (.iload_n 2, 1) := by decide +kernel
theorem dX8_hands_84 : decode cX8_hands 84 = .ok (.invokevirtual 202, 3) := by decide +kernel
theorem dX8_hands_87 : decode cX8_hands 87 = .ok (.invokestatic 193, 3) := by decide +kernel
theorem dX8_hands_90 : decode cX8_hands 90 = .ok (.ifCond .ne 6, 3) := by decide +kernel
theorem dX8_hands_93 : decode cX8_hands 93 = .ok (.ldc 82, 2) := by decide +kernel
theorem dX8_hands_95 : decode cX8_hands 95 = .ok (.ireturn, 1) := by decide +kernel
theorem dX8_hands_96 : decode cX8_hands 96 = .ok (.iinc 2 1, 3) := by decide +kernel
theorem dX8_hands_99 : decode cX8_hands 99 = .ok (.goto (-32), 3) := by decide +kernel
theorem dX8_hands_102 : decode cX8_hands 102 = .ok (.aload_n 0, 1) := by decide +kernel
theorem dX8_hands_103 : decode cX8_hands 103 = .ok (.getfield 45, 3) := by decide +kernel
theorem dX8_hands_106 : decode cX8_hands 106 = .ok (.aload_n 0, 1) := by decide +kernel
theorem dX8_hands_107 : decode cX8_hands 107 = .ok (.getfield 35, 3) := by decide +kernel
theorem dX8_hands_110 : decode cX8_hands 110 = .ok (.invokevirtual 165, 3) := by decide +kernel
theorem dX8_hands_113 : decode cX8_hands 113 = .ok (.aload_n 0, 1) := by decide +kernel
theorem dX8_hands_114 : decode cX8_hands 114 = .ok (.aload_n 0, 1) := by decide +kernel
theorem dX8_hands_115 : decode cX8_hands 115 = .ok (.iload_n 1, 1) := by decide +kernel
theorem dX8_hands_116 : decode cX8_hands 116 = .ok (.invokevirtual 205, 3) := by decide +kernel
theorem dX8_hands_119 : decode cX8_hands 119 = .ok (.invokevirtual 91, 3) := by decide +kernel
theorem dX8_hands_122 : decode cX8_hands 122 = .ok (.ireturn, 1) := by decide +kernel
set_option maxRecDepth 20000 in
theorem ggX8_takeHands_X5_itemOf : GoodIn wsX8_takeHands wsX5_itemOf := goodIn_r _ [9, 10, 11, 12, 13, 8, 14, 34, 35, 36] (by decide +kernel) (by decide +kernel)
set_option maxRecDepth 20000 in
theorem gX8_takeHands_X5_itemOf : GoodIn wsX8_takeHands (wsV RX8 202 RX5 yX5_itemOf wsX5_itemOf) := goodIn_app (goodIn_of _ (by decide +kernel)) ggX8_takeHands_X5_itemOf
theorem dX8_takeHands_0 : decode cX8_takeHands 0 = .ok (.iconst 0, 1) := by decide +kernel
theorem dX8_takeHands_1 : decode cX8_takeHands 1 = .ok (.istore_n 2, 1) := by decide +kernel
theorem dX8_takeHands_2 : decode cX8_takeHands 2 = .ok (.iconst 0, 1) := by decide +kernel
theorem dX8_takeHands_3 : decode cX8_takeHands 3 = .ok (.istore_n 3, 1) := by decide +kernel
theorem dX8_takeHands_4 : decode cX8_takeHands 4 = .ok (.iload_n 3, 1) := by decide +kernel
theorem dX8_takeHands_5 : decode cX8_takeHands 5 = .ok (.aload_n 0, 1) := by decide +kernel
theorem dX8_takeHands_6 : decode cX8_takeHands 6 = .ok (.getfield 35, 3) := by decide +kernel
theorem dX8_takeHands_9 : decode cX8_takeHands 9 = .ok (.getfield 154, 3) := by decide +kernel
theorem dX8_takeHands_12 : decode cX8_takeHands 12 = .ok (.if_icmp .ge 48, 3) := by decide +kernel
theorem dX8_takeHands_15 : decode cX8_takeHands 15 = .ok (.aload_n 0, 1) := by decide +kernel
theorem dX8_takeHands_16 : decode cX8_takeHands 16 = .ok (.getfield 10, 3) := by decide +kernel
theorem dX8_takeHands_19 : decode cX8_takeHands 19 = .ok (.iload_n 1, 1) := by decide +kernel
theorem dX8_takeHands_20 : decode cX8_takeHands 20 = .ok (.iload_n 3, 1) := by decide +kernel
theorem dX8_takeHands_21 : decode cX8_takeHands 21 = .ok (.invokevirtual 202, 3) := by decide +kernel
theorem dX8_takeHands_24 : decode cX8_takeHands 24 = .ok (.istore 4, 2) := by decide +kernel
theorem dX8_takeHands_26 : decode cX8_takeHands 26 = .ok (.aload_n 0, 1) := by decide +kernel
theorem dX8_takeHands_27 : decode cX8_takeHands 27 = .ok (.getfield 35, 3) := by decide +kernel
theorem dX8_takeHands_30 : decode cX8_takeHands 30 = .ok (.getfield 196, 3) := by decide +kernel
theorem dX8_takeHands_33 : decode cX8_takeHands 33 = .ok (.iload_n 3, 1) := by decide +kernel
theorem dX8_takeHands_34 : decode cX8_takeHands 34 = .ok (.iaload, 1) := by decide +kernel
theorem dX8_takeHands_35 : decode cX8_takeHands 35 = .ok (.iload 4, 2) := by decide +kernel
theorem dX8_takeHands_37 : decode cX8_takeHands 37 = .ok (.if_icmp .eq 6, 3) := by decide +kernel
theorem dX8_takeHands_40 : decode cX8_takeHands 40 = .ok (.iinc 2 1, 3) := by decide +kernel
theorem dX8_takeHands_43 : decode cX8_takeHands 43 = .ok (.aload_n 0, 1) := by decide +kernel
theorem dX8_takeHands_44 : decode cX8_takeHands 44 = .ok (.getfield 35, 3) := by decide +kernel
theorem dX8_takeHands_47 : decode cX8_takeHands 47 = .ok (.getfield 196, 3) := by decide +kernel
theorem dX8_takeHands_50 : decode cX8_takeHands 50 = .ok (.iload_n 3, 1) := by decide +kernel
theorem dX8_takeHands_51 : decode cX8_takeHands 51 = .ok (.iload 4, 2) := by decide +kernel
theorem dX8_takeHands_53 : decode cX8_takeHands 53 = .ok (.iastore, 1) := by decide +kernel
theorem dX8_takeHands_54 : decode cX8_takeHands 54 = .ok (.iinc 3 1, 3) := by decide +kernel
theorem dX8_takeHands_57 : decode cX8_takeHands 57 = .ok (.goto (-53), 3) := by decide +kernel
theorem dX8_takeHands_60 : decode cX8_takeHands 60 = .ok (.iload_n 2, 1) := by decide +kernel
theorem dX8_takeHands_61 : decode cX8_takeHands 61 = .ok (.ireturn, 1) := by decide +kernel
set_option maxRecDepth 20000 in
theorem ggX8_undo_X0_takeBack : GoodIn wsX8_undo wsX0_takeBack := goodIn_r _ [9, 10, 11, 12, 13, 14, 15, 16, 17, 18, 19, 20, 21, 22, 23, 36, 37, 38, 39, 40, 41, 42, 43, 44, 45] (by decide +kernel) (by decide +kernel)
set_option maxRecDepth 20000 in
theorem gX8_undo_X0_takeBack : GoodIn wsX8_undo (wsV RX8 211 RX0 yX0_takeBack wsX0_takeBack) := goodIn_app (goodIn_of _ (by decide +kernel)) ggX8_undo_X0_takeBack
theorem dX8_undo_0 : decode cX8_undo 0 = .ok (.aload_n 0, 1) := by decide +kernel
theorem dX8_undo_1 : decode cX8_undo 1 = .ok (.getfield 45, 3) := by decide +kernel
theorem dX8_undo_4 : decode cX8_undo 4 = .ok (.getfield 208, 3) := by decide +kernel
theorem dX8_undo_7 : decode cX8_undo 7 = .ok (.ifCond .ne 6, 3) := by decide +kernel
theorem dX8_undo_10 : decode cX8_undo 10 = .ok (.ldc 164, 2) := by decide +kernel
theorem dX8_undo_12 : decode cX8_undo 12 = .ok (.ireturn, 1) := by decide +kernel
theorem dX8_undo_13 : decode cX8_undo 13 = .ok (.aload_n 0, 1) := by decide +kernel
theorem dX8_undo_14 : decode cX8_undo 14 = .ok (.getfield 45, 3) := by decide +kernel
theorem dX8_undo_17 : decode cX8_undo 17 = .ok (.aload_n 0, 1) := by decide +kernel
theorem dX8_undo_18 : decode cX8_undo 18 = .ok (.getfield 35, 3) := by decide +kernel
theorem dX8_undo_21 : decode cX8_undo 21 = .ok (.invokevirtual 211, 3) := by decide +kernel
theorem dX8_undo_24 : decode cX8_undo 24 = .ok (.aload_n 0, 1) := by decide +kernel
theorem dX8_undo_25 : decode cX8_undo 25 = .ok (.getfield 45, 3) := by decide +kernel
theorem dX8_undo_28 : decode cX8_undo 28 = .ok (.getfield 208, 3) := by decide +kernel
theorem dX8_undo_31 : decode cX8_undo 31 = .ok (.ireturn, 1) := by decide +kernel
set_option maxRecDepth 20000 in
theorem ggX8_player_X8_isPlayer : GoodIn wsX8_player wsX8_isPlayer := goodIn_r _ [9, 2, 10, 18, 19, 20, 21, 22, 23, 24, 25, 26, 27, 28, 29, 30, 31, 32, 33, 34, 35, 36] (by decide +kernel) (by decide +kernel)
set_option maxRecDepth 20000 in
theorem gX8_player_X8_isPlayer : GoodIn wsX8_player (wsV RX8 190 RX8 yX8_isPlayer wsX8_isPlayer) := goodIn_app (goodIn_of _ (by decide +kernel)) ggX8_player_X8_isPlayer
set_option maxRecDepth 20000 in
theorem ggX8_player_X3_trainOf : GoodIn wsX8_player wsX3_trainOf := goodIn_r _ [15, 16, 17, 30, 31, 32, 33, 34, 35, 36] (by decide +kernel) (by decide +kernel)
set_option maxRecDepth 20000 in
theorem gX8_player_X3_trainOf : GoodIn wsX8_player (wsV RX8 217 RX3 yX3_trainOf wsX3_trainOf) := goodIn_app (goodIn_of _ (by decide +kernel)) ggX8_player_X3_trainOf
theorem dX8_player_0 : decode cX8_player 0 = .ok (.aload_n 0, 1) := by decide +kernel
theorem dX8_player_1 : decode cX8_player 1 = .ok (.iload_n 1, 1) := by decide +kernel
theorem dX8_player_2 : decode cX8_player 2 = .ok (.invokevirtual 190, 3) := by decide +kernel
theorem dX8_player_5 : decode cX8_player 5 = .ok (.ifCond .ne 6, 3) := by decide +kernel
theorem dX8_player_8 : decode cX8_player 8 = .ok (.ldc 82, 2) := by decide +kernel
theorem dX8_player_10 : decode cX8_player 10 = .ok (.ireturn, 1) := by decide +kernel
theorem dX8_player_11 : decode cX8_player 11 = .ok (.iload_n 2, 1) := by decide +kernel
theorem dX8_player_12 : decode cX8_player 12 = .ok (.tableswitch 57 0 2 #[28, 38, 48], 28) := by decide +kernel
theorem dX8_player_40 : decode cX8_player 40 = .ok (.aload_n 0, 1) := by decide +kernel
theorem dX8_player_41 : decode cX8_player 41 = .ok (.getfield 35, 3) := by decide +kernel
theorem dX8_player_44 : decode cX8_player 44 = .ok (.getfield 196, 3) := by decide +kernel
theorem dX8_player_47 : decode cX8_player 47 = .ok (.iload_n 1, 1) := by decide +kernel
theorem dX8_player_48 : decode cX8_player 48 = .ok (.iaload, 1) := by decide +kernel
theorem dX8_player_49 : decode cX8_player 49 = .ok (.ireturn, 1) := by decide +kernel
theorem dX8_player_50 : decode cX8_player 50 = .ok (.aload_n 0, 1) := by decide +kernel
theorem dX8_player_51 : decode cX8_player 51 = .ok (.getfield 35, 3) := by decide +kernel
theorem dX8_player_54 : decode cX8_player 54 = .ok (.getfield 214, 3) := by decide +kernel
theorem dX8_player_57 : decode cX8_player 57 = .ok (.iload_n 1, 1) := by decide +kernel
theorem dX8_player_58 : decode cX8_player 58 = .ok (.iaload, 1) := by decide +kernel
theorem dX8_player_59 : decode cX8_player 59 = .ok (.ireturn, 1) := by decide +kernel
theorem dX8_player_60 : decode cX8_player 60 = .ok (.aload_n 0, 1) := by decide +kernel
theorem dX8_player_61 : decode cX8_player 61 = .ok (.getfield 35, 3) := by decide +kernel
theorem dX8_player_64 : decode cX8_player 64 = .ok (.iload_n 1, 1) := by decide +kernel
theorem dX8_player_65 : decode cX8_player 65 = .ok (.invokevirtual 217, 3) := by decide +kernel
theorem dX8_player_68 : decode cX8_player 68 = .ok (.ireturn, 1) := by decide +kernel
theorem dX8_player_69 : decode cX8_player 69 = .ok (.ldc 82, 2) := by decide +kernel
theorem dX8_player_71 : decode cX8_player 71 = .ok (.ireturn, 1) := by decide +kernel
theorem dX8_isPlayer_0 : decode cX8_isPlayer 0 = .ok (.iload_n 1, 1) := by decide +kernel
theorem dX8_isPlayer_1 : decode cX8_isPlayer 1 = .ok (.ifCond .lt 18, 3) := by decide +kernel
theorem dX8_isPlayer_4 : decode cX8_isPlayer 4 = .ok (.iload_n 1, 1) := by decide +kernel
theorem dX8_isPlayer_5 : decode cX8_isPlayer 5 = .ok (.aload_n 0, 1) := by decide +kernel
theorem dX8_isPlayer_6 : decode cX8_isPlayer 6 = .ok (.getfield 35, 3) := by decide +kernel
theorem dX8_isPlayer_9 : decode cX8_isPlayer 9 = .ok (.getfield 154, 3) := by decide +kernel
theorem dX8_isPlayer_12 : decode cX8_isPlayer 12 = .ok (.if_icmp .ge 7, 3) := by decide +kernel
theorem dX8_isPlayer_15 : decode cX8_isPlayer 15 = .ok (.iconst 1, 1) := by decide +kernel
theorem dX8_isPlayer_16 : decode cX8_isPlayer 16 = .ok (.goto 4, 3) := by decide +kernel
theorem dX8_isPlayer_19 : decode cX8_isPlayer 19 = .ok (.iconst 0, 1) := by decide +kernel
theorem dX8_isPlayer_20 : decode cX8_isPlayer 20 = .ok (.ireturn, 1) := by decide +kernel
set_option maxRecDepth 20000 in
theorem ggX8_isPair_X8_isPlayer : GoodIn wsX8_isPair wsX8_isPlayer := goodIn_r _ [5, 6, 7, 8, 9, 10, 11, 12, 13, 14, 15, 16, 17, 18, 19, 20, 21, 22, 23, 24, 25, 26] (by decide +kernel) (by decide +kernel)
set_option maxRecDepth 20000 in
theorem gX8_isPair_X8_isPlayer : GoodIn wsX8_isPair (wsV RX8 190 RX8 yX8_isPlayer wsX8_isPlayer) := goodIn_app (goodIn_of _ (by decide +kernel)) ggX8_isPair_X8_isPlayer
theorem dX8_isPair_0 : decode cX8_isPair 0 = .ok (.aload_n 0, 1) := by decide +kernel
theorem dX8_isPair_1 : decode cX8_isPair 1 = .ok (.iload_n 1, 1) := by decide +kernel
theorem dX8_isPair_2 : decode cX8_isPair 2 = .ok (.invokevirtual 190, 3) := by decide +kernel
theorem dX8_isPair_5 : decode cX8_isPair 5 = .ok (.ifCond .eq 20, 3) := by decide +kernel
theorem dX8_isPair_8 : decode cX8_isPair 8 = .ok (.aload_n 0, 1) := by decide +kernel
theorem dX8_isPair_9 : decode cX8_isPair 9 = .ok (.iload_n 2, 1) := by decide +kernel
theorem dX8_isPair_10 : decode cX8_isPair 10 = .ok (.invokevirtual 190, 3) := by decide +kernel
theorem dX8_isPair_13 : decode cX8_isPair 13 = .ok (.ifCond .eq 12, 3) := by decide +kernel
theorem dX8_isPair_16 : decode cX8_isPair 16 = .ok (.iload_n 1, 1) := by decide +kernel
theorem dX8_isPair_17 : decode cX8_isPair 17 = .ok (.iload_n 2, 1) := by decide +kernel
theorem dX8_isPair_18 : decode cX8_isPair 18 = .ok (.if_icmp .eq 7, 3) := by decide +kernel
theorem dX8_isPair_21 : decode cX8_isPair 21 = .ok (.iconst 1, 1) := by decide +kernel
theorem dX8_isPair_22 : decode cX8_isPair 22 = .ok (.goto 4, 3) := by decide +kernel
theorem dX8_isPair_25 : decode cX8_isPair 25 = .ok (.iconst 0, 1) := by decide +kernel
theorem dX8_isPair_26 : decode cX8_isPair 26 = .ok (.ireturn, 1) := by decide +kernel
theorem dX8_isHand_0 : decode cX8_isHand 0 = .ok (.iload_n 0, 1) := by decide +kernel
theorem dX8_isHand_1 : decode cX8_isHand 1 = .ok (.ifCond .lt 12, 3) := by decide +kernel
theorem dX8_isHand_4 : decode cX8_isHand 4 = .ok (.iload_n 0, 1) := by decide +kernel
theorem dX8_isHand_5 : decode cX8_isHand 5 = .ok (.iconst 3, 1) := by decide +kernel
theorem dX8_isHand_6 : decode cX8_isHand 6 = .ok (.if_icmp .ge 7, 3) := by decide +kernel
theorem dX8_isHand_9 : decode cX8_isHand 9 = .ok (.iconst 1, 1) := by decide +kernel
theorem dX8_isHand_10 : decode cX8_isHand 10 = .ok (.goto 4, 3) := by decide +kernel
theorem dX8_isHand_13 : decode cX8_isHand 13 = .ok (.iconst 0, 1) := by decide +kernel
theorem dX8_isHand_14 : decode cX8_isHand 14 = .ok (.ireturn, 1) := by decide +kernel
set_option maxRecDepth 20000 in
theorem ggX8_beats_X8_isPair : GoodIn wsX8_beats wsX8_isPair := goodIn_r _ [10, 11, 12, 13, 9, 14, 2, 15, 55, 56, 57, 58, 59, 60, 61, 62, 63, 64, 65, 66, 67, 68, 69, 70, 71, 72, 73] (by decide +kernel) (by decide +kernel)
set_option maxRecDepth 20000 in
theorem gX8_beats_X8_isPair : GoodIn wsX8_beats (wsV RX8 157 RX8 yX8_isPair wsX8_isPair) := goodIn_app (goodIn_of _ (by decide +kernel)) ggX8_beats_X8_isPair
set_option maxRecDepth 20000 in
theorem ggX8_beats_X3_leads : GoodIn wsX8_beats wsX3_leads := goodIn_r _ [20, 21, 67, 68, 69, 70, 71, 72, 73] (by decide +kernel) (by decide +kernel)
set_option maxRecDepth 20000 in
theorem gX8_beats_X3_leads : GoodIn wsX8_beats (wsV RX8 161 RX3 yX3_leads wsX3_leads) := goodIn_app (goodIn_of _ (by decide +kernel)) ggX8_beats_X3_leads
set_option maxRecDepth 20000 in
theorem ggX8_beats_X3_foretell : GoodIn wsX8_beats wsX3_foretell := goodIn_r _ [25, 26, 27, 28, 29, 30, 31, 32, 33, 34, 35, 36, 37, 9, 38, 39, 40, 41, 42, 43, 44, 45, 46, 47, 48, 49, 50, 51, 52, 19, 53, 54, 21, 67, 68, 69, 70, 71, 72, 73, 74, 75, 76] (by decide +kernel) (by decide +kernel)
set_option maxRecDepth 20000 in
theorem gX8_beats_X3_foretell : GoodIn wsX8_beats (wsV RX8 220 RX3 yX3_foretell wsX3_foretell) := goodIn_app (goodIn_of _ (by decide +kernel)) ggX8_beats_X3_foretell
theorem dX8_beats_0 : decode cX8_beats 0 = .ok (.aload_n 0, 1) := by decide +kernel
theorem dX8_beats_1 : decode cX8_beats 1 = .ok (.iload_n 1, 1) := by decide +kernel
theorem dX8_beats_2 : decode cX8_beats 2 = .ok (.iload_n 2, 1) := by decide +kernel
theorem dX8_beats_3 : decode cX8_beats 3 = .ok (.invokevirtual 157, 3) := by decide +kernel
theorem dX8_beats_6 : decode cX8_beats 6 = .ok (.ifCond .eq 12, 3) := by decide +kernel
theorem dX8_beats_9 : decode cX8_beats 9 = .ok (.iload_n 3, 1) := by decide +kernel
theorem dX8_beats_10 : decode cX8_beats 10 = .ok (.ifCond .lt 8, 3) := by decide +kernel
theorem dX8_beats_13 : decode cX8_beats 13 = .ok (.iload_n 3, 1) := by decide +kernel
theorem dX8_beats_14 : decode cX8_beats 14 = .ok (.iconst 1, 1) := by decide +kernel
theorem dX8_beats_15 : decode cX8_beats 15 = .ok (.if_icmp .le 6, 3) := by decide +kernel
theorem dX8_beats_18 : decode cX8_beats 18 = .ok (.ldc 82, 2) := by decide +kernel
theorem dX8_beats_20 : decode cX8_beats 20 = .ok (.ireturn, 1) := by decide +kernel
theorem dX8_beats_21 : decode cX8_beats 21 = .ok (.aload_n 0, 1) := by decide +kernel
theorem dX8_beats_22 : decode cX8_beats 22 = .ok (.getfield 35, 3) := by decide +kernel
theorem dX8_beats_25 : decode cX8_beats 25 = .ok (.iload_n 1, 1) := by decide +kernel
theorem dX8_beats_26 : decode cX8_beats 26 = .ok (.invokevirtual 161, 3) := by decide +kernel
theorem dX8_beats_29 : decode cX8_beats 29 = .ok (.ifCond .eq 14, 3) := by decide +kernel
theorem dX8_beats_32 : decode cX8_beats 32 = .ok (.aload_n 0, 1) := by decide +kernel
theorem dX8_beats_33 : decode cX8_beats 33 = .ok (.getfield 35, 3) := by decide +kernel
theorem dX8_beats_36 : decode cX8_beats 36 = .ok (.iload_n 2, 1) := by decide +kernel
theorem dX8_beats_37 : decode cX8_beats 37 = .ok (.invokevirtual 161, 3) := by decide +kernel
theorem dX8_beats_40 : decode cX8_beats 40 = .ok (.ifCond .ne 6, 3) := by decide +kernel
theorem dX8_beats_43 : decode cX8_beats 43 = .ok (.ldc 164, 2) := by decide +kernel
theorem dX8_beats_45 : decode cX8_beats 45 = .ok (.ireturn, 1) := by decide +kernel
theorem dX8_beats_46 : decode cX8_beats 46 = .ok (.aload_n 0, 1) := by decide +kernel
theorem dX8_beats_47 : decode cX8_beats 47 = .ok (.getfield 35, 3) := by decide +kernel
theorem dX8_beats_50 : decode cX8_beats 50 = .ok (.iload_n 1, 1) := by decide +kernel
theorem dX8_beats_51 : decode cX8_beats 51 = .ok (.iload_n 2, 1) := by decide +kernel
theorem dX8_beats_52 : decode cX8_beats 52 = .ok (.invokevirtual 220, 3) := by decide +kernel
theorem dX8_beats_55 : decode cX8_beats 55 = .ok (.istore 4, 2) := by decide +kernel
theorem dX8_beats_57 : decode cX8_beats 57 = .ok (.iload_n 3, 1) := by decide +kernel
theorem dX8_beats_58 : decode cX8_beats 58 = .ok (.ifCond .ne 8, 3) := by decide +kernel
theorem dX8_beats_61 : decode cX8_beats 61 = .ok (.iload 4, 2) := by decide +kernel
theorem dX8_beats_63 : decode cX8_beats 63 = .ok (.goto 13, 3) := by decide +kernel
theorem dX8_beats_66 : decode cX8_beats 66 = .ok (.aload_n 0, 1) := by decide +kernel
theorem dX8_beats_67 : decode cX8_beats 67 = .ok (.getfield 35, 3) := by decide +kernel
theorem dX8_beats_70 : decode cX8_beats 70 = .ok (.getfield 174, 3) := by decide +kernel
theorem dX8_beats_73 : decode cX8_beats 73 = .ok (.getfield 178, 3) := by decide +kernel
theorem dX8_beats_76 : decode cX8_beats 76 = .ok (.ireturn, 1) := by decide +kernel
set_option maxRecDepth 20000 in
theorem ggX8_left_X3_isMissing : GoodIn wsX8_left wsX3_isMissing := goodIn_r _ [12, 13, 93, 94, 95, 96, 97, 98, 99] (by decide +kernel) (by decide +kernel)
set_option maxRecDepth 20000 in
theorem gX8_left_X3_isMissing : GoodIn wsX8_left (wsV RX8 199 RX3 yX3_isMissing wsX3_isMissing) := goodIn_app (goodIn_of _ (by decide +kernel)) ggX8_left_X3_isMissing
set_option maxRecDepth 20000 in
theorem ggX8_left_X3_become : GoodIn wsX8_left wsX3_become := goodIn_r _ [17, 13, 18, 19, 20, 21, 22, 93, 94, 95, 96, 97, 98, 99] (by decide +kernel) (by decide +kernel)
set_option maxRecDepth 20000 in
theorem gX8_left_X3_become : GoodIn wsX8_left (wsV RX8 147 RX3 yX3_become wsX3_become) := goodIn_app (goodIn_of _ (by decide +kernel)) ggX8_left_X3_become
set_option maxRecDepth 20000 in
theorem ggX8_left_X3_playToTheEnd : GoodIn wsX8_left wsX3_playToTheEnd := goodIn_r _ [26, 27, 28, 29, 11, 30, 13, 31, 32, 33, 34, 22, 35, 36, 37, 38, 39, 40, 41, 42, 43, 44, 18, 19, 45, 46, 47, 48, 21, 49, 50, 51, 52, 53, 54, 20, 55, 56, 57, 58, 59, 60, 61, 62, 63, 64, 65, 66, 67, 68, 69, 70, 71, 72, 73, 74, 75, 76, 77, 78, 79, 80, 93, 94, 95, 96, 97, 98, 99, 100, 101, 102] (by decide +kernel) (by decide +kernel)
set_option maxRecDepth 20000 in
theorem gX8_left_X3_playToTheEnd : GoodIn wsX8_left (wsV RX8 223 RX3 yX3_playToTheEnd wsX3_playToTheEnd) := goodIn_app (goodIn_of _ (by decide +kernel)) ggX8_left_X3_playToTheEnd
theorem dX8_left_0 : decode cX8_left 0 = .ok (.aload_n 0, 1) := by decide +kernel
theorem dX8_left_1 : decode cX8_left 1 = .ok (.getfield 35, 3) := by decide +kernel
theorem dX8_left_4 : decode cX8_left 4 = .ok (.invokevirtual 199, 3) := by decide +kernel
theorem dX8_left_7 : decode cX8_left 7 = .ok (.ifCond .eq 6, 3) := by decide +kernel
theorem dX8_left_10 : decode cX8_left 10 = .ok (.ldc 164, 2) := by decide +kernel
theorem dX8_left_12 : decode cX8_left 12 = .ok (.ireturn, 1) := by decide +kernel
theorem dX8_left_13 : decode cX8_left 13 = .ok (.aload_n 0, 1) := by decide +kernel
theorem dX8_left_14 : decode cX8_left 14 = .ok (.getfield 39, 3) := by decide +kernel
theorem dX8_left_17 : decode cX8_left 17 = .ok (.aload_n 0, 1) := by decide +kernel
theorem dX8_left_18 : decode cX8_left 18 = .ok (.getfield 35, 3) := by decide +kernel
theorem dX8_left_21 : decode cX8_left 21 = .ok (.invokevirtual 147, 3) := by decide +kernel
theorem dX8_left_24 : decode cX8_left 24 = .ok (.aload_n 0, 1) := by decide +kernel
theorem dX8_left_25 : decode cX8_left 25 = .ok (.getfield 39, 3) := by decide +kernel
theorem dX8_left_28 : decode cX8_left 28 = .ok (.invokevirtual 223, 3) := by decide +kernel
theorem dX8_left_31 : decode cX8_left 31 = .ok (.iload_n 1, 1) := by decide +kernel
theorem dX8_left_32 : decode cX8_left 32 = .ok (.tableswitch 70 0 2 #[28, 38, 54], 28) := by decide +kernel
theorem dX8_left_60 : decode cX8_left 60 = .ok (.aload_n 0, 1) := by decide +kernel
theorem dX8_left_61 : decode cX8_left 61 = .ok (.getfield 39, 3) := by decide +kernel
theorem dX8_left_64 : decode cX8_left 64 = .ok (.getfield 214, 3) := by decide +kernel
theorem dX8_left_67 : decode cX8_left 67 = .ok (.iconst 0, 1) := by decide +kernel
theorem dX8_left_68 : decode cX8_left 68 = .ok (.iaload, 1) := by decide +kernel
theorem dX8_left_69 : decode cX8_left 69 = .ok (.ireturn, 1) := by decide +kernel
theorem dX8_left_70 : decode cX8_left 70 = .ok (.aload_n 0, 1) := by decide +kernel
theorem dX8_left_71 : decode cX8_left 71 = .ok (.getfield 39, 3) := by decide +kernel
theorem dX8_left_74 : decode cX8_left 74 = .ok (.getfield 226, 3) := by decide +kernel
theorem dX8_left_77 : decode cX8_left 77 = .ok (.aload_n 0, 1) := by decide +kernel
theorem dX8_left_78 : decode cX8_left 78 = .ok (.getfield 35, 3) := by decide +kernel
theorem dX8_left_81 : decode cX8_left 81 = .ok (.getfield 226, 3) := by decide +kernel
theorem dX8_left_84 : decode cX8_left 84 = .ok (.isub, 1) := by decide +kernel
theorem dX8_left_85 : decode cX8_left 85 = .ok (.ireturn, 1) := by decide +kernel
theorem dX8_left_86 : decode cX8_left 86 = .ok (.aload_n 0, 1) := by decide +kernel
theorem dX8_left_87 : decode cX8_left 87 = .ok (.getfield 39, 3) := by decide +kernel
theorem dX8_left_90 : decode cX8_left 90 = .ok (.getfield 171, 3) := by decide +kernel
theorem dX8_left_93 : decode cX8_left 93 = .ok (.aload_n 0, 1) := by decide +kernel
theorem dX8_left_94 : decode cX8_left 94 = .ok (.getfield 35, 3) := by decide +kernel
theorem dX8_left_97 : decode cX8_left 97 = .ok (.getfield 171, 3) := by decide +kernel
theorem dX8_left_100 : decode cX8_left 100 = .ok (.isub, 1) := by decide +kernel
theorem dX8_left_101 : decode cX8_left 101 = .ok (.ireturn, 1) := by decide +kernel
theorem dX8_left_102 : decode cX8_left 102 = .ok (.ldc 82, 2) := by decide +kernel
theorem dX8_left_104 : decode cX8_left 104 = .ok (.ireturn, 1) := by decide +kernel
set_option maxRecDepth 20000 in
theorem ggX8_longest_X3_isMissing : GoodIn wsX8_longest wsX3_isMissing := goodIn_r _ [9, 10, 91, 92, 93, 94, 95, 96, 97] (by decide +kernel) (by decide +kernel)
set_option maxRecDepth 20000 in
theorem gX8_longest_X3_isMissing : GoodIn wsX8_longest (wsV RX8 199 RX3 yX3_isMissing wsX3_isMissing) := goodIn_app (goodIn_of _ (by decide +kernel)) ggX8_longest_X3_isMissing
set_option maxRecDepth 20000 in
theorem ggX8_longest_X3_become : GoodIn wsX8_longest wsX3_become := goodIn_r _ [14, 10, 15, 16, 17, 18, 19, 91, 92, 93, 94, 95, 96, 97] (by decide +kernel) (by decide +kernel)
set_option maxRecDepth 20000 in
theorem gX8_longest_X3_become : GoodIn wsX8_longest (wsV RX8 147 RX3 yX3_become wsX3_become) := goodIn_app (goodIn_of _ (by decide +kernel)) ggX8_longest_X3_become
set_option maxRecDepth 20000 in
theorem ggX8_longest_X3_leaders : GoodIn wsX8_longest wsX3_leaders := goodIn_r _ [23, 10, 24, 25, 26, 8, 27, 19, 91, 92, 93, 94, 95, 96, 97] (by decide +kernel) (by decide +kernel)
set_option maxRecDepth 20000 in
theorem gX8_longest_X3_leaders : GoodIn wsX8_longest (wsV RX8 183 RX3 yX3_leaders wsX3_leaders) := goodIn_app (goodIn_of _ (by decide +kernel)) ggX8_longest_X3_leaders
set_option maxRecDepth 20000 in
theorem ggX8_longest_X3_playRound : GoodIn wsX8_longest wsX3_playRound := goodIn_r _ [31, 10, 32, 33, 34, 35, 36, 37, 15, 16, 24, 25, 26, 8, 27, 19, 38, 39, 40, 41, 18, 42, 43, 44, 45, 46, 47, 17, 48, 49, 50, 51, 52, 53, 54, 55, 56, 57, 58, 59, 60, 61, 62, 63, 64, 65, 66, 67, 68, 69, 70, 71, 72, 73, 91, 92, 93, 94, 95, 96, 97, 98, 99, 100] (by decide +kernel) (by decide +kernel)
set_option maxRecDepth 20000 in
theorem gX8_longest_X3_playRound : GoodIn wsX8_longest (wsV RX8 187 RX3 yX3_playRound wsX3_playRound) := goodIn_app (goodIn_of _ (by decide +kernel)) ggX8_longest_X3_playRound
set_option maxRecDepth 20000 in
theorem ggX8_longest_X3_longestTrain : GoodIn wsX8_longest wsX3_longestTrain := goodIn_r _ [77, 10, 24, 25, 26, 8, 27, 19, 70, 71, 72, 73, 91, 92, 93, 94, 95, 96, 97] (by decide +kernel) (by decide +kernel)
set_option maxRecDepth 20000 in
theorem gX8_longest_X3_longestTrain : GoodIn wsX8_longest (wsV RX8 229 RX3 yX3_longestTrain wsX3_longestTrain) := goodIn_app (goodIn_of _ (by decide +kernel)) ggX8_longest_X3_longestTrain
set_option maxRecDepth 20000 in
theorem ggX8_longest_X3_trainOf : GoodIn wsX8_longest wsX3_trainOf := goodIn_r _ [73, 10, 19, 91, 92, 93, 94, 95, 96, 97] (by decide +kernel) (by decide +kernel)
set_option maxRecDepth 20000 in
theorem gX8_longest_X3_trainOf : GoodIn wsX8_longest (wsV RX8 217 RX3 yX3_trainOf wsX3_trainOf) := goodIn_app (goodIn_of _ (by decide +kernel)) ggX8_longest_X3_trainOf
theorem dX8_longest_0 : decode cX8_longest 0 = .ok (.aload_n 0, 1) := by decide +kernel
theorem dX8_longest_1 : decode cX8_longest 1 = .ok (.getfield 35, 3) := by decide +kernel
theorem dX8_longest_4 : decode cX8_longest 4 = .ok (.invokevirtual 199, 3) := by decide +kernel
theorem dX8_longest_7 : decode cX8_longest 7 = .ok (.ifCond .eq 6, 3) := by decide +kernel
theorem dX8_longest_10 : decode cX8_longest 10 = .ok (.ldc 164, 2) := by decide +kernel
theorem dX8_longest_12 : decode cX8_longest 12 = .ok (.ireturn, 1) := by decide +kernel
theorem dX8_longest_13 : decode cX8_longest 13 = .ok (.iload_n 1, 1) := by decide +kernel
theorem dX8_longest_14 : decode cX8_longest 14 = .ok (.ifCond .lt 18, 3) := by decide +kernel
theorem dX8_longest_17 : decode cX8_longest 17 = .ok (.iload_n 1, 1) := by decide +kernel
theorem dX8_longest_18 : decode cX8_longest 18 = .ok (.bipush 9, 2) := by decide +kernel
theorem dX8_longest_20 : decode cX8_longest 20 = .ok (.if_icmp .gt 12, 3) := by decide +kernel
theorem dX8_longest_23 : decode cX8_longest 23 = .ok (.iload_n 2, 1) := by decide +kernel
theorem dX8_longest_24 : decode cX8_longest 24 = .ok (.ifCond .lt 8, 3) := by decide +kernel
theorem dX8_longest_27 : decode cX8_longest 27 = .ok (.iload_n 2, 1) := by decide +kernel
theorem dX8_longest_28 : decode cX8_longest 28 = .ok (.iconst 1, 1) := by decide +kernel
theorem dX8_longest_29 : decode cX8_longest 29 = .ok (.if_icmp .le 6, 3) := by decide +kernel
theorem dX8_longest_32 : decode cX8_longest 32 = .ok (.ldc 82, 2) := by decide +kernel
theorem dX8_longest_34 : decode cX8_longest 34 = .ok (.ireturn, 1) := by decide +kernel
theorem dX8_longest_35 : decode cX8_longest 35 = .ok (.aload_n 0, 1) := by decide +kernel
theorem dX8_longest_36 : decode cX8_longest 36 = .ok (.getfield 39, 3) := by decide +kernel
theorem dX8_longest_39 : decode cX8_longest 39 = .ok (.aload_n 0, 1) := by decide +kernel
theorem dX8_longest_40 : decode cX8_longest 40 = .ok (.getfield 35, 3) := by decide +kernel
theorem dX8_longest_43 : decode cX8_longest 43 = .ok (.invokevirtual 147, 3) := by decide +kernel
theorem dX8_longest_46 : decode cX8_longest 46 = .ok (.iconst 0, 1) := by decide +kernel
theorem dX8_longest_47 : decode cX8_longest 47 = .ok (.istore_n 3, 1) := by decide +kernel
theorem dX8_longest_48 : decode cX8_longest 48 = .ok (.iload_n 3, 1) := by decide +kernel
theorem dX8_longest_49 : decode cX8_longest 49 = .ok (.iload_n 1, 1) := by decide +kernel
theorem dX8_longest_50 : decode cX8_longest 50 = .ok (.if_icmp .ge 27, 3) := by decide +kernel
theorem dX8_longest_53 : decode cX8_longest 53 = .ok (.aload_n 0, 1) := by decide +kernel
theorem dX8_longest_54 : decode cX8_longest 54 = .ok (.getfield 39, 3) := by decide +kernel
theorem dX8_longest_57 : decode cX8_longest 57 = .ok (.invokevirtual 183, 3) := by decide +kernel
theorem dX8_longest_60 : decode cX8_longest 60 = .ok (.iconst 1, 1) := by decide +kernel
theorem dX8_longest_61 : decode cX8_longest 61 = .ok (.if_icmp .le 16, 3) := by decide +kernel
theorem dX8_longest_64 : decode cX8_longest 64 = .ok (.aload_n 0, 1) := by decide +kernel
theorem dX8_longest_65 : decode cX8_longest 65 = .ok (.getfield 39, 3) := by decide +kernel
theorem dX8_longest_68 : decode cX8_longest 68 = .ok (.invokevirtual 187, 3) := by decide +kernel
theorem dX8_longest_71 : decode cX8_longest 71 = .ok (.iinc 3 1, 3) := by decide +kernel
theorem dX8_longest_74 : decode cX8_longest 74 = .ok (.goto (-26), 3) := by decide +kernel
theorem dX8_longest_77 : decode cX8_longest 77 = .ok (.aload_n 0, 1) := by decide +kernel
theorem dX8_longest_78 : decode cX8_longest 78 = .ok (.getfield 39, 3) := by decide +kernel
theorem dX8_longest_81 : decode cX8_longest 81 = .ok (.invokevirtual 229, 3) := by decide +kernel
theorem dX8_longest_84 : decode cX8_longest 84 = .ok (.istore_n 3, 1) := by decide +kernel
theorem dX8_longest_85 : decode cX8_longest 85 = .ok (.iload_n 2, 1) := by decide +kernel
theorem dX8_longest_86 : decode cX8_longest 86 = .ok (.ifCond .ne 14, 3) := by decide +kernel
theorem dX8_longest_89 : decode cX8_longest 89 = .ok (.aload_n 0, 1) := by decide +kernel
theorem dX8_longest_90 : decode cX8_longest 90 = .ok (.getfield 39, 3) := by decide +kernel
theorem dX8_longest_93 : decode cX8_longest 93 = .ok (.iload_n 3, 1) := by decide +kernel
theorem dX8_longest_94 : decode cX8_longest 94 = .ok (.invokevirtual 217, 3) := by decide +kernel
theorem dX8_longest_97 : decode cX8_longest 97 = .ok (.goto 4, 3) := by decide +kernel
theorem dX8_longest_100 : decode cX8_longest 100 = .ok (.iload_n 3, 1) := by decide +kernel
theorem dX8_longest_101 : decode cX8_longest 101 = .ok (.ireturn, 1) := by decide +kernel
set_option maxRecDepth 20000 in
theorem ggX8_begin_X8_isPlayer : GoodIn wsX8_begin wsX8_isPlayer := goodIn_r _ [9, 2, 10, 85, 86, 87, 88, 89, 90, 91, 92, 93, 94, 95, 96, 97, 98, 99, 100, 101, 102, 103] (by decide +kernel) (by decide +kernel)
set_option maxRecDepth 20000 in
theorem gX8_begin_X8_isPlayer : GoodIn wsX8_begin (wsV RX8 190 RX8 yX8_isPlayer wsX8_isPlayer) := goodIn_app (goodIn_of _ (by decide +kernel)) ggX8_begin_X8_isPlayer
set_option maxRecDepth 20000 in
theorem ggX8_begin_X3_leads : GoodIn wsX8_begin wsX3_leads := goodIn_r _ [15, 16, 97, 98, 99, 100, 101, 102, 103] (by decide +kernel) (by decide +kernel)
set_option maxRecDepth 20000 in
theorem gX8_begin_X3_leads : GoodIn wsX8_begin (wsV RX8 161 RX3 yX3_leads wsX3_leads) := goodIn_app (goodIn_of _ (by decide +kernel)) ggX8_begin_X3_leads
set_option maxRecDepth 20000 in
theorem ggX8_begin_X8_tryHand : GoodIn wsX8_begin wsX8_tryHand := goodIn_r _ [20, 4, 2, 21, 22, 23, 24, 14, 25, 26, 27, 28, 29, 30, 16, 85, 86, 87, 88, 89, 90, 91, 92, 93, 94, 95, 96, 97, 98, 99, 100, 101, 102, 103] (by decide +kernel) (by decide +kernel)
set_option maxRecDepth 20000 in
theorem gX8_begin_X8_tryHand : GoodIn wsX8_begin (wsV RX8 232 RX8 yX8_tryHand wsX8_tryHand) := goodIn_app (goodIn_of _ (by decide +kernel)) ggX8_begin_X8_tryHand
set_option maxRecDepth 20000 in
theorem ggX8_begin_X3_roundsLed : GoodIn wsX8_begin wsX3_roundsLed := goodIn_r _ [34, 35, 36, 37, 14, 38, 26, 39, 12, 13, 15, 16, 40, 41, 42, 43, 44, 45, 46, 47, 48, 49, 27, 28, 50, 51, 52, 53, 30, 54, 55, 56, 57, 58, 59, 29, 60, 61, 62, 63, 64, 65, 66, 67, 68, 8, 69, 70, 71, 72, 73, 74, 75, 76, 77, 78, 79, 80, 81, 82, 83, 84, 97, 98, 99, 100, 101, 102, 103, 104, 105, 106] (by decide +kernel) (by decide +kernel)
set_option maxRecDepth 20000 in
theorem gX8_begin_X3_roundsLed : GoodIn wsX8_begin (wsV RX8 236 RX3 yX3_roundsLed wsX3_roundsLed) := goodIn_app (goodIn_of _ (by decide +kernel)) ggX8_begin_X3_roundsLed
theorem dX8_begin_0 : decode cX8_begin 0 = .ok (.aload_n 0, 1) := by decide +kernel
theorem dX8_begin_1 : decode cX8_begin 1 = .ok (.iload_n 1, 1) := by decide +kernel
theorem dX8_begin_2 : decode cX8_begin 2 = .ok (.invokevirtual 190, 3) := by decide +kernel
theorem dX8_begin_5 : decode cX8_begin 5 = .ok (.ifCond .ne 6, 3) := by decide +kernel
theorem dX8_begin_8 : decode cX8_begin 8 = .ok (.ldc 82, 2) := by decide +kernel
theorem dX8_begin_10 : decode cX8_begin 10 = .ok (.ireturn, 1) := by decide +kernel
theorem dX8_begin_11 : decode cX8_begin 11 = .ok (.aload_n 0, 1) := by decide +kernel
theorem dX8_begin_12 : decode cX8_begin 12 = .ok (.getfield 35, 3) := by decide +kernel
theorem dX8_begin_15 : decode cX8_begin 15 = .ok (.iload_n 1, 1) := by decide +kernel
theorem dX8_begin_16 : decode cX8_begin 16 = .ok (.invokevirtual 161, 3) := by decide +kernel
theorem dX8_begin_19 : decode cX8_begin 19 = .ok (.ifCond .ne 6, 3) := by decide +kernel
theorem dX8_begin_22 : decode cX8_begin 22 = .ok (.ldc 164, 2) := by decide +kernel
theorem dX8_begin_24 : decode cX8_begin 24 = .ok (.ireturn, 1) := by decide +kernel
theorem dX8_begin_25 : decode cX8_begin 25 = .ok (.iconst 0, 1) := by decide +kernel
theorem dX8_begin_26 : decode cX8_begin 26 = .ok (.istore_n 2, 1) := by decide +kernel
theorem dX8_begin_27 : decode cX8_begin 27 = .ok (.iconst (-1), 1) := by decide +kernel
theorem dX8_begin_28 : decode cX8_begin 28 = .ok (.istore_n 3, 1) := by decide +kernel
theorem dX8_begin_29 : decode cX8_begin 29 = .ok (.iconst 0, 1) := by decide +kernel
theorem dX8_begin_30 : decode cX8_begin 30 = .ok (.istore 4, 2) := by decide +kernel
theorem dX8_begin_32 : decode cX8_begin 32 = .ok (.iload 4, 2) := by decide +kernel
theorem dX8_begin_34 : decode cX8_begin 34 = .ok (.iconst 3, 1) := by decide +kernel
theorem dX8_begin_35 : decode cX8_begin 35 = .ok (.if_icmp .ge 38, 3) := by decide +kernel
theorem dX8_begin_38 : decode cX8_begin 38 = .ok (.aload_n 0, 1) := by decide +kernel
theorem dX8_begin_39 : decode cX8_begin 39 = .ok (.iload_n 1, 1) := by decide +kernel
theorem dX8_begin_40 : decode cX8_begin 40 = .ok (.iload 4, 2) := by decide +kernel
theorem dX8_begin_42 : decode cX8_begin 42 = .ok (.invokevirtual 232, 3) := by decide +kernel
theorem dX8_begin_45 : decode cX8_begin 45 = .ok (.aload_n 0, 1) := by decide +kernel
theorem dX8_begin_46 : decode cX8_begin 46 = .ok (.getfield 39, 3) := by decide +kernel
theorem dX8_begin_49 : decode cX8_begin 49 = .ok (.iload_n 1, 1) := by decide +kernel
theorem dX8_begin_50 : decode cX8_begin 50 = .ok (.invokevirtual 236, 3) := by decide +kernel
theorem dX8_begin_53 : decode cX8_begin 53 = .ok (.istore 5, 2) := by decide +kernel
theorem dX8_begin_55 : decode cX8_begin 55 = .ok (.iload 5, 2) := by decide +kernel
theorem dX8_begin_57 : decode cX8_begin 57 = .ok (.iload_n 3, 1) := by decide +kernel
theorem dX8_begin_58 : decode cX8_begin 58 = .ok (.if_icmp .le 9, 3) := by decide +kernel
theorem dX8_begin_61 : decode cX8_begin 61 = .ok (.iload 5, 2) := by decide +kernel
theorem dX8_begin_63 : decode cX8_begin 63 = .ok (.istore_n 3, 1) := by decide +kernel
theorem dX8_begin_64 : decode cX8_begin 64 = .ok (.iload 4, 2) := by decide +kernel
theorem dX8_begin_66 : decode cX8_begin 66 = .ok (.istore_n 2, 1) := by decide +kernel
theorem dX8_begin_67 : decode cX8_begin 67 = .ok (.iinc 4 1, 3) := by decide +kernel
theorem dX8_begin_70 : decode cX8_begin 70 = .ok (.goto (-38), 3) := by decide +kernel
theorem dX8_begin_73 : decode cX8_begin 73 = .ok (.iload_n 2, 1) := by decide +kernel
theorem dX8_begin_74 : decode cX8_begin 74 = .ok (.ireturn, 1) := by decide +kernel
set_option maxRecDepth 20000 in
theorem ggX8_seek_X8_isPlayer : GoodIn wsX8_seek wsX8_isPlayer := goodIn_r _ [10, 2, 4, 81, 82, 83, 84, 85, 86, 87, 88, 89, 90, 91, 92, 93, 94, 95, 96, 97, 98, 99] (by decide +kernel) (by decide +kernel)
set_option maxRecDepth 20000 in
theorem gX8_seek_X8_isPlayer : GoodIn wsX8_seek (wsV RX8 190 RX8 yX8_isPlayer wsX8_isPlayer) := goodIn_app (goodIn_of _ (by decide +kernel)) ggX8_seek_X8_isPlayer
set_option maxRecDepth 20000 in
theorem ggX8_seek_X3_leads : GoodIn wsX8_seek wsX3_leads := goodIn_r _ [15, 16, 93, 94, 95, 96, 97, 98, 99] (by decide +kernel) (by decide +kernel)
set_option maxRecDepth 20000 in
theorem gX8_seek_X3_leads : GoodIn wsX8_seek (wsV RX8 161 RX3 yX3_leads wsX3_leads) := goodIn_app (goodIn_of _ (by decide +kernel)) ggX8_seek_X3_leads
set_option maxRecDepth 20000 in
theorem ggX8_seek_X3_become : GoodIn wsX8_seek wsX3_become := goodIn_r _ [20, 21, 22, 23, 24, 25, 16, 93, 94, 95, 96, 97, 98, 99] (by decide +kernel) (by decide +kernel)
set_option maxRecDepth 20000 in
theorem gX8_seek_X3_become : GoodIn wsX8_seek (wsV RX8 147 RX3 yX3_become wsX3_become) := goodIn_app (goodIn_of _ (by decide +kernel)) ggX8_seek_X3_become
set_option maxRecDepth 20000 in
theorem ggX8_seek_X3_meet : GoodIn wsX8_seek wsX3_meet := goodIn_r _ [29, 25, 30, 31, 32, 21, 16, 33, 34, 35, 14, 36, 24, 37, 38, 39, 40, 41, 42, 43, 44, 45, 9, 46, 47, 48, 49, 50, 51, 52, 53, 54, 55, 56, 57, 58, 59, 60, 61, 93, 94, 95, 96, 97, 98, 99, 100, 101, 102] (by decide +kernel) (by decide +kernel)
set_option maxRecDepth 20000 in
theorem gX8_seek_X3_meet : GoodIn wsX8_seek (wsV RX8 168 RX3 yX3_meet wsX3_meet) := goodIn_app (goodIn_of _ (by decide +kernel)) ggX8_seek_X3_meet
set_option maxRecDepth 20000 in
theorem ggX8_seek_X3_playToTheEnd : GoodIn wsX8_seek wsX3_playToTheEnd := goodIn_r _ [65, 66, 67, 68, 14, 69, 21, 70, 12, 13, 15, 16, 71, 72, 73, 74, 30, 75, 76, 77, 78, 79, 22, 23, 80, 27, 28, 29, 25, 31, 32, 33, 34, 35, 36, 24, 37, 38, 39, 40, 41, 42, 43, 44, 45, 9, 46, 47, 48, 49, 50, 51, 52, 53, 54, 55, 56, 57, 58, 59, 60, 61, 93, 94, 95, 96, 97, 98, 99, 100, 101, 102] (by decide +kernel) (by decide +kernel)
set_option maxRecDepth 20000 in
theorem gX8_seek_X3_playToTheEnd : GoodIn wsX8_seek (wsV RX8 223 RX3 yX3_playToTheEnd wsX3_playToTheEnd) := goodIn_app (goodIn_of _ (by decide +kernel)) ggX8_seek_X3_playToTheEnd
theorem dX8_seek_0 : decode cX8_seek 0 = .ok (.aload_n 0, 1) := by decide +kernel
theorem dX8_seek_1 : decode cX8_seek 1 = .ok (.iload_n 1, 1) := by decide +kernel
theorem dX8_seek_2 : decode cX8_seek 2 = .ok (.invokevirtual 190, 3) := by decide +kernel
theorem dX8_seek_5 : decode cX8_seek 5 = .ok (.ifCond .ne 6, 3) := by decide +kernel
theorem dX8_seek_8 : decode cX8_seek 8 = .ok (.ldc 82, 2) := by decide +kernel
theorem dX8_seek_10 : decode cX8_seek 10 = .ok (.ireturn, 1) := by decide +kernel
theorem dX8_seek_11 : decode cX8_seek 11 = .ok (.aload_n 0, 1) := by decide +kernel
theorem dX8_seek_12 : decode cX8_seek 12 = .ok (.getfield 35, 3) := by decide +kernel
theorem dX8_seek_15 : decode cX8_seek 15 = .ok (.iload_n 1, 1) := by decide +kernel
theorem dX8_seek_16 : decode cX8_seek 16 = .ok (.invokevirtual 161, 3) := by decide +kernel
theorem dX8_seek_19 : decode cX8_seek 19 = .ok (.ifCond .ne 6, 3) := by decide +kernel
theorem dX8_seek_22 : decode cX8_seek 22 = .ok (.ldc 164, 2) := by decide +kernel
theorem dX8_seek_24 : decode cX8_seek 24 = .ok (.ireturn, 1) := by decide +kernel
theorem dX8_seek_25 : decode cX8_seek 25 = .ok (.iconst 0, 1) := by decide +kernel
theorem dX8_seek_26 : decode cX8_seek 26 = .ok (.istore_n 2, 1) := by decide +kernel
theorem dX8_seek_27 : decode cX8_seek 27 = .ok (.iconst 0, 1) := by decide +kernel
theorem dX8_seek_28 : decode cX8_seek 28 = .ok (.istore_n 3, 1) := by decide +kernel
theorem dX8_seek_29 : decode cX8_seek 29 = .ok (.iload_n 3, 1) := by decide +kernel
theorem dX8_seek_30 : decode cX8_seek 30 = .ok (.aload_n 0, 1) := by decide +kernel
theorem dX8_seek_31 : decode cX8_seek 31 = .ok (.getfield 35, 3) := by decide +kernel
theorem dX8_seek_34 : decode cX8_seek 34 = .ok (.getfield 154, 3) := by decide +kernel
theorem dX8_seek_37 : decode cX8_seek 37 = .ok (.if_icmp .ge 70, 3) := by decide +kernel
theorem dX8_seek_40 : decode cX8_seek 40 = .ok (.iload_n 3, 1) := by decide +kernel
theorem dX8_seek_41 : decode cX8_seek 41 = .ok (.iload_n 1, 1) := by decide +kernel
theorem dX8_seek_42 : decode cX8_seek 42 = .ok (.if_icmp .eq 59, 3) := by decide +kernel
theorem dX8_seek_45 : decode cX8_seek 45 = .ok (.aload_n 0, 1) := by decide +kernel
theorem dX8_seek_46 : decode cX8_seek 46 = .ok (.getfield 35, 3) := by decide +kernel
theorem dX8_seek_49 : decode cX8_seek 49 = .ok (.iload_n 3, 1) := by decide +kernel
theorem dX8_seek_50 : decode cX8_seek 50 = .ok (.invokevirtual 161, 3) := by decide +kernel
theorem dX8_seek_53 : decode cX8_seek 53 = .ok (.ifCond .eq 48, 3) := by decide +kernel
theorem dX8_seek_56 : decode cX8_seek 56 = .ok (.aload_n 0, 1) := by decide +kernel
theorem dX8_seek_57 : decode cX8_seek 57 = .ok (.getfield 39, 3) := by decide +kernel
theorem dX8_seek_60 : decode cX8_seek 60 = .ok (.aload_n 0, 1) := by decide +kernel
theorem dX8_seek_61 : decode cX8_seek 61 = .ok (.getfield 35, 3) := by decide +kernel
theorem dX8_seek_64 : decode cX8_seek 64 = .ok (.invokevirtual 147, 3) := by decide +kernel
theorem dX8_seek_67 : decode cX8_seek 67 = .ok (.aload_n 0, 1) := by decide +kernel
theorem dX8_seek_68 : decode cX8_seek 68 = .ok (.getfield 39, 3) := by decide +kernel
theorem dX8_seek_71 : decode cX8_seek 71 = .ok (.iload_n 1, 1) := by decide +kernel
theorem dX8_seek_72 : decode cX8_seek 72 = .ok (.iload_n 3, 1) := by decide +kernel
theorem dX8_seek_73 : decode cX8_seek 73 = .ok (.invokevirtual 168, 3) := by decide +kernel
theorem dX8_seek_76 : decode cX8_seek 76 = .ok (.pop, 1) := by decide +kernel
theorem dX8_seek_77 : decode cX8_seek 77 = .ok (.aload_n 0, 1) := by decide +kernel
theorem dX8_seek_78 : decode cX8_seek 78 = .ok (.getfield 39, 3) := by decide +kernel
theorem dX8_seek_81 : decode cX8_seek 81 = .ok (.invokevirtual 223, 3) := by decide +kernel
theorem dX8_seek_84 : decode cX8_seek 84 = .ok (.aload_n 0, 1) := by decide +kernel
theorem dX8_seek_85 : decode cX8_seek 85 = .ok (.getfield 39, 3) := by decide +kernel
theorem dX8_seek_88 : decode cX8_seek 88 = .ok (.iload_n 1, 1) := by decide +kernel
theorem dX8_seek_89 : decode cX8_seek 89 = .ok (.invokevirtual 161, 3) := by decide +kernel
theorem dX8_seek_92 : decode cX8_seek 92 = .ok (.ifCond .eq 9, 3) := by decide +kernel
theorem dX8_seek_95 : decode cX8_seek 95 = .ok (.iload_n 2, 1) := by decide +kernel
theorem dX8_seek_96 : decode cX8_seek 96 = .ok (.iconst 1, 1) := by decide +kernel
theorem dX8_seek_97 : decode cX8_seek 97 = .ok (.iload_n 3, 1) := by decide +kernel
theorem dX8_seek_98 : decode cX8_seek 98 = .ok (.ishl, 1) := by decide +kernel
theorem dX8_seek_99 : decode cX8_seek 99 = .ok (.ior, 1) := by decide +kernel
theorem dX8_seek_100 : decode cX8_seek 100 = .ok (.istore_n 2, 1) := by decide +kernel
theorem dX8_seek_101 : decode cX8_seek 101 = .ok (.iinc 3 1, 3) := by decide +kernel
theorem dX8_seek_104 : decode cX8_seek 104 = .ok (.goto (-75), 3) := by decide +kernel
theorem dX8_seek_107 : decode cX8_seek 107 = .ok (.iload_n 2, 1) := by decide +kernel
theorem dX8_seek_108 : decode cX8_seek 108 = .ok (.ireturn, 1) := by decide +kernel
set_option maxRecDepth 20000 in
theorem ggX8_fewest_X8_isPlayer : GoodIn wsX8_fewest wsX8_isPlayer := goodIn_r _ [12, 2, 13, 97, 98, 99, 100, 101, 102, 103, 104, 105, 106, 107, 108, 109, 110, 111, 112, 113, 114, 115] (by decide +kernel) (by decide +kernel)
set_option maxRecDepth 20000 in
theorem gX8_fewest_X8_isPlayer : GoodIn wsX8_fewest (wsV RX8 190 RX8 yX8_isPlayer wsX8_isPlayer) := goodIn_app (goodIn_of _ (by decide +kernel)) ggX8_fewest_X8_isPlayer
set_option maxRecDepth 20000 in
theorem ggX8_fewest_X3_leads : GoodIn wsX8_fewest wsX3_leads := goodIn_r _ [18, 19, 109, 110, 111, 112, 113, 114, 115] (by decide +kernel) (by decide +kernel)
set_option maxRecDepth 20000 in
theorem gX8_fewest_X3_leads : GoodIn wsX8_fewest (wsV RX8 161 RX3 yX3_leads wsX3_leads) := goodIn_app (goodIn_of _ (by decide +kernel)) ggX8_fewest_X3_leads
set_option maxRecDepth 20000 in
theorem ggX8_fewest_X7_bestFor : GoodIn wsX8_fewest wsX7_bestFor := goodIn_r _ [24, 25, 26, 27, 28, 29, 30, 31, 32, 33, 34, 23, 35, 36, 37, 38, 39, 40, 15, 16, 17, 18, 19, 41, 42, 43, 44, 45, 46, 47, 48, 49, 50, 51, 52, 53, 54, 55, 56, 57, 58, 59, 60, 61, 62, 63, 64, 65, 66, 67, 68, 69, 70, 11, 71, 72, 73, 74, 75, 76, 77, 78, 79, 80, 81, 82, 83, 84, 85, 86, 87, 88, 89, 90, 116, 117, 118, 119, 120, 121, 109, 110, 111, 112, 113, 114, 115, 122, 123, 124] (by decide +kernel) (by decide +kernel)
set_option maxRecDepth 20000 in
theorem gX8_fewest_X7_bestFor : GoodIn wsX8_fewest (wsV RX8 239 RX7 yX7_bestFor wsX7_bestFor) := goodIn_app (goodIn_of _ (by decide +kernel)) ggX8_fewest_X7_bestFor
set_option maxRecDepth 20000 in
theorem ggX8_fewest_X7_othersOf : GoodIn wsX8_fewest wsX7_othersOf := goodIn_r _ [93] (by decide +kernel) (by decide +kernel)
set_option maxRecDepth 20000 in
theorem gX8_fewest_X7_othersOf : GoodIn wsX8_fewest (va_wsS RX8 245 yX7_othersOf wsX7_othersOf) := goodIn_app (goodIn_of _ (by decide +kernel)) ggX8_fewest_X7_othersOf
set_option maxRecDepth 20000 in
theorem ggX8_fewest_X7_handIn : GoodIn wsX8_fewest wsX7_handIn := goodIn_r _ [96, 41, 42, 23, 43] (by decide +kernel) (by decide +kernel)
set_option maxRecDepth 20000 in
theorem gX8_fewest_X7_handIn : GoodIn wsX8_fewest (va_wsS RX8 248 yX7_handIn wsX7_handIn) := goodIn_app (goodIn_of _ (by decide +kernel)) ggX8_fewest_X7_handIn
theorem dX8_fewest_0 : decode cX8_fewest 0 = .ok (.aload_n 0, 1) := by decide +kernel
theorem dX8_fewest_1 : decode cX8_fewest 1 = .ok (.iload_n 1, 1) := by decide +kernel
theorem dX8_fewest_2 : decode cX8_fewest 2 = .ok (.invokevirtual 190, 3) := by decide +kernel
theorem dX8_fewest_5 : decode cX8_fewest 5 = .ok (.ifCond .eq 16, 3) := by decide +kernel
theorem dX8_fewest_8 : decode cX8_fewest 8 = .ok (.iload_n 2, 1) := by decide +kernel
theorem dX8_fewest_9 : decode cX8_fewest 9 = .ok (.iconst (-1), 1) := by decide +kernel
theorem dX8_fewest_10 : decode cX8_fewest 10 = .ok (.if_icmp .eq 14, 3) := by decide +kernel
theorem dX8_fewest_13 : decode cX8_fewest 13 = .ok (.aload_n 0, 1) := by decide +kernel
theorem dX8_fewest_14 : decode cX8_fewest 14 = .ok (.iload_n 2, 1) := by decide +kernel
theorem dX8_fewest_15 : decode cX8_fewest 15 = .ok (.invokevirtual 190, 3) := by decide +kernel
theorem dX8_fewest_18 : decode cX8_fewest 18 = .ok (.ifCond .ne 6, 3) := by decide +kernel
theorem dX8_fewest_21 : decode cX8_fewest 21 = .ok (.ldc 82, 2) := by decide +kernel
theorem dX8_fewest_23 : decode cX8_fewest 23 = .ok (.ireturn, 1) := by decide +kernel
theorem dX8_fewest_24 : decode cX8_fewest 24 = .ok (.aload_n 0, 1) := by decide +kernel
theorem dX8_fewest_25 : decode cX8_fewest 25 = .ok (.getfield 35, 3) := by decide +kernel
theorem dX8_fewest_28 : decode cX8_fewest 28 = .ok (.iload_n 1, 1) := by decide +kernel
theorem dX8_fewest_29 : decode cX8_fewest 29 = .ok (.invokevirtual 161, 3) := by decide +kernel
theorem dX8_fewest_32 : decode cX8_fewest 32 = .ok (.ifCond .ne 6, 3) := by decide +kernel
theorem dX8_fewest_35 : decode cX8_fewest 35 = .ok (.ldc 164, 2) := by decide +kernel
theorem dX8_fewest_37 : decode cX8_fewest 37 = .ok (.ireturn, 1) := by decide +kernel
theorem dX8_fewest_38 : decode cX8_fewest 38 = .ok (.aload_n 0, 1) := by decide +kernel
theorem dX8_fewest_39 : decode cX8_fewest 39 = .ok (.getfield 52, 3) := by decide +kernel
theorem dX8_fewest_42 : decode cX8_fewest 42 = .ok (.aload_n 0, 1) := by decide +kernel
theorem dX8_fewest_43 : decode cX8_fewest 43 = .ok (.getfield 35, 3) := by decide +kernel
theorem dX8_fewest_46 : decode cX8_fewest 46 = .ok (.iload_n 1, 1) := by decide +kernel
theorem dX8_fewest_47 : decode cX8_fewest 47 = .ok (.invokevirtual 239, 3) := by decide +kernel
theorem dX8_fewest_50 : decode cX8_fewest 50 = .ok (.istore_n 3, 1) := by decide +kernel
theorem dX8_fewest_51 : decode cX8_fewest 51 = .ok (.iload_n 3, 1) := by decide +kernel
theorem dX8_fewest_52 : decode cX8_fewest 52 = .ok (.ldc 243, 2) := by decide +kernel
theorem dX8_fewest_54 : decode cX8_fewest 54 = .ok (.if_icmp .ne 6, 3) := by decide +kernel
theorem dX8_fewest_57 : decode cX8_fewest 57 = .ok (.ldc 244, 2) := by decide +kernel
theorem dX8_fewest_59 : decode cX8_fewest 59 = .ok (.ireturn, 1) := by decide +kernel
theorem dX8_fewest_60 : decode cX8_fewest 60 = .ok (.iload_n 2, 1) := by decide +kernel
theorem dX8_fewest_61 : decode cX8_fewest 61 = .ok (.iconst (-1), 1) := by decide +kernel
theorem dX8_fewest_62 : decode cX8_fewest 62 = .ok (.if_icmp .ne 8, 3) := by decide +kernel
theorem dX8_fewest_65 : decode cX8_fewest 65 = .ok (.iload_n 3, 1) := by decide +kernel
theorem dX8_fewest_66 : decode cX8_fewest 66 = .ok (.invokestatic 245, 3) := by decide +kernel
theorem dX8_fewest_69 : decode cX8_fewest 69 = .ok (.ireturn, 1) := by decide +kernel
theorem dX8_fewest_70 : decode cX8_fewest 70 = .ok (.aload_n 0, 1) := by decide +kernel
theorem dX8_fewest_71 : decode cX8_fewest 71 = .ok (.getfield 35, 3) := by decide +kernel
theorem dX8_fewest_74 : decode cX8_fewest 74 = .ok (.iload_n 2, 1) := by decide +kernel
theorem dX8_fewest_75 : decode cX8_fewest 75 = .ok (.invokevirtual 161, 3) := by decide +kernel
theorem dX8_fewest_78 : decode cX8_fewest 78 = .ok (.ifCond .eq 11, 3) := by decide +kernel
theorem dX8_fewest_81 : decode cX8_fewest 81 = .ok (.iload_n 3, 1) := by decide +kernel
theorem dX8_fewest_82 : decode cX8_fewest 82 = .ok (.iload_n 2, 1) := by decide +kernel
theorem dX8_fewest_83 : decode cX8_fewest 83 = .ok (.invokestatic 248, 3) := by decide +kernel
theorem dX8_fewest_86 : decode cX8_fewest 86 = .ok (.goto 12, 3) := by decide +kernel
theorem dX8_fewest_89 : decode cX8_fewest 89 = .ok (.aload_n 0, 1) := by decide +kernel
theorem dX8_fewest_90 : decode cX8_fewest 90 = .ok (.getfield 35, 3) := by decide +kernel
theorem dX8_fewest_93 : decode cX8_fewest 93 = .ok (.getfield 196, 3) := by decide +kernel
theorem dX8_fewest_96 : decode cX8_fewest 96 = .ok (.iload_n 2, 1) := by decide +kernel
theorem dX8_fewest_97 : decode cX8_fewest 97 = .ok (.iaload, 1) := by decide +kernel
theorem dX8_fewest_98 : decode cX8_fewest 98 = .ok (.ireturn, 1) := by decide +kernel
set_option maxRecDepth 20000 in
theorem ggX8_begun_X8_isPlayer : GoodIn wsX8_begun wsX8_isPlayer := goodIn_r _ [9, 2, 10, 85, 86, 87, 88, 89, 90, 91, 92, 93, 94, 95, 96, 97, 98, 99, 100, 101, 102, 103] (by decide +kernel) (by decide +kernel)
set_option maxRecDepth 20000 in
theorem gX8_begun_X8_isPlayer : GoodIn wsX8_begun (wsV RX8 190 RX8 yX8_isPlayer wsX8_isPlayer) := goodIn_app (goodIn_of _ (by decide +kernel)) ggX8_begun_X8_isPlayer
set_option maxRecDepth 20000 in
theorem ggX8_begun_X3_leads : GoodIn wsX8_begun wsX3_leads := goodIn_r _ [15, 16, 97, 98, 99, 100, 101, 102, 103] (by decide +kernel) (by decide +kernel)
set_option maxRecDepth 20000 in
theorem gX8_begun_X3_leads : GoodIn wsX8_begun (wsV RX8 161 RX3 yX3_leads wsX3_leads) := goodIn_app (goodIn_of _ (by decide +kernel)) ggX8_begun_X3_leads
set_option maxRecDepth 20000 in
theorem ggX8_begun_X8_tryHand : GoodIn wsX8_begun wsX8_tryHand := goodIn_r _ [20, 4, 2, 21, 22, 23, 24, 14, 25, 26, 27, 28, 29, 30, 16, 85, 86, 87, 88, 89, 90, 91, 92, 93, 94, 95, 96, 97, 98, 99, 100, 101, 102, 103] (by decide +kernel) (by decide +kernel)
set_option maxRecDepth 20000 in
theorem gX8_begun_X8_tryHand : GoodIn wsX8_begun (wsV RX8 232 RX8 yX8_tryHand wsX8_tryHand) := goodIn_app (goodIn_of _ (by decide +kernel)) ggX8_begun_X8_tryHand
set_option maxRecDepth 20000 in
theorem ggX8_begun_X3_playToTheEnd : GoodIn wsX8_begun wsX3_playToTheEnd := goodIn_r _ [34, 35, 36, 37, 14, 38, 26, 39, 12, 13, 15, 16, 40, 41, 42, 43, 44, 45, 46, 47, 48, 49, 27, 28, 50, 51, 52, 53, 30, 54, 55, 56, 57, 58, 59, 29, 60, 61, 62, 63, 64, 65, 66, 67, 68, 8, 69, 70, 71, 72, 73, 74, 75, 76, 77, 78, 79, 80, 81, 82, 83, 84, 97, 98, 99, 100, 101, 102, 103, 104, 105, 106] (by decide +kernel) (by decide +kernel)
set_option maxRecDepth 20000 in
theorem gX8_begun_X3_playToTheEnd : GoodIn wsX8_begun (wsV RX8 223 RX3 yX3_playToTheEnd wsX3_playToTheEnd) := goodIn_app (goodIn_of _ (by decide +kernel)) ggX8_begun_X3_playToTheEnd
theorem dX8_begun_0 : decode cX8_begun 0 = .ok (.aload_n 0, 1) := by decide +kernel
theorem dX8_begun_1 : decode cX8_begun 1 = .ok (.iload_n 1, 1) := by decide +kernel
theorem dX8_begun_2 : decode cX8_begun 2 = .ok (.invokevirtual 190, 3) := by decide +kernel
theorem dX8_begun_5 : decode cX8_begun 5 = .ok (.ifCond .eq 11, 3) := by decide +kernel
theorem dX8_begun_8 : decode cX8_begun 8 = .ok (.aload_n 0, 1) := by decide +kernel
theorem dX8_begun_9 : decode cX8_begun 9 = .ok (.iload_n 2, 1) := by decide +kernel
theorem dX8_begun_10 : decode cX8_begun 10 = .ok (.invokevirtual 190, 3) := by decide +kernel
theorem dX8_begun_13 : decode cX8_begun 13 = .ok (.ifCond .ne 6, 3) := by decide +kernel
theorem dX8_begun_16 : decode cX8_begun 16 = .ok (.ldc 82, 2) := by decide +kernel
theorem dX8_begun_18 : decode cX8_begun 18 = .ok (.ireturn, 1) := by decide +kernel
theorem dX8_begun_19 : decode cX8_begun 19 = .ok (.aload_n 0, 1) := by decide +kernel
theorem dX8_begun_20 : decode cX8_begun 20 = .ok (.getfield 35, 3) := by decide +kernel
theorem dX8_begun_23 : decode cX8_begun 23 = .ok (.iload_n 1, 1) := by decide +kernel
theorem dX8_begun_24 : decode cX8_begun 24 = .ok (.invokevirtual 161, 3) := by decide +kernel
theorem dX8_begun_27 : decode cX8_begun 27 = .ok (.ifCond .eq 14, 3) := by decide +kernel
theorem dX8_begun_30 : decode cX8_begun 30 = .ok (.aload_n 0, 1) := by decide +kernel
theorem dX8_begun_31 : decode cX8_begun 31 = .ok (.getfield 35, 3) := by decide +kernel
theorem dX8_begun_34 : decode cX8_begun 34 = .ok (.iload_n 2, 1) := by decide +kernel
theorem dX8_begun_35 : decode cX8_begun 35 = .ok (.invokevirtual 161, 3) := by decide +kernel
theorem dX8_begun_38 : decode cX8_begun 38 = .ok (.ifCond .ne 6, 3) := by decide +kernel
theorem dX8_begun_41 : decode cX8_begun 41 = .ok (.ldc 164, 2) := by decide +kernel
theorem dX8_begun_43 : decode cX8_begun 43 = .ok (.ireturn, 1) := by decide +kernel
theorem dX8_begun_44 : decode cX8_begun 44 = .ok (.iconst 0, 1) := by decide +kernel
theorem dX8_begun_45 : decode cX8_begun 45 = .ok (.istore_n 3, 1) := by decide +kernel
theorem dX8_begun_46 : decode cX8_begun 46 = .ok (.iconst 0, 1) := by decide +kernel
theorem dX8_begun_47 : decode cX8_begun 47 = .ok (.istore 4, 2) := by decide +kernel
theorem dX8_begun_49 : decode cX8_begun 49 = .ok (.iload 4, 2) := by decide +kernel
theorem dX8_begun_51 : decode cX8_begun 51 = .ok (.iconst 3, 1) := by decide +kernel
theorem dX8_begun_52 : decode cX8_begun 52 = .ok (.if_icmp .ge 41, 3) := by decide +kernel
theorem dX8_begun_55 : decode cX8_begun 55 = .ok (.aload_n 0, 1) := by decide +kernel
theorem dX8_begun_56 : decode cX8_begun 56 = .ok (.iload_n 1, 1) := by decide +kernel
theorem dX8_begun_57 : decode cX8_begun 57 = .ok (.iload 4, 2) := by decide +kernel
theorem dX8_begun_59 : decode cX8_begun 59 = .ok (.invokevirtual 232, 3) := by decide +kernel
theorem dX8_begun_62 : decode cX8_begun 62 = .ok (.aload_n 0, 1) := by decide +kernel
theorem dX8_begun_63 : decode cX8_begun 63 = .ok (.getfield 39, 3) := by decide +kernel
theorem dX8_begun_66 : decode cX8_begun 66 = .ok (.invokevirtual 223, 3) := by decide +kernel
theorem dX8_begun_69 : decode cX8_begun 69 = .ok (.aload_n 0, 1) := by decide +kernel
theorem dX8_begun_70 : decode cX8_begun 70 = .ok (.getfield 39, 3) := by decide +kernel
theorem dX8_begun_73 : decode cX8_begun 73 = .ok (.iload_n 2, 1) := by decide +kernel
theorem dX8_begun_74 : decode cX8_begun 74 = .ok (.invokevirtual 161, 3) := by decide +kernel
theorem dX8_begun_77 : decode cX8_begun 77 = .ok (.ifCond .eq 10, 3) := by decide +kernel
theorem dX8_begun_80 : decode cX8_begun 80 = .ok (.iload_n 3, 1) := by decide +kernel
theorem dX8_begun_81 : decode cX8_begun 81 = .ok (.iconst 1, 1) := by decide +kernel
theorem dX8_begun_82 : decode cX8_begun 82 = .ok (.iload 4, 2) := by decide +kernel
theorem dX8_begun_84 : decode cX8_begun 84 = .ok (.ishl, 1) := by decide +kernel
theorem dX8_begun_85 : decode cX8_begun 85 = .ok (.ior, 1) := by decide +kernel
theorem dX8_begun_86 : decode cX8_begun 86 = .ok (.istore_n 3, 1) := by decide +kernel
theorem dX8_begun_87 : decode cX8_begun 87 = .ok (.iinc 4 1, 3) := by decide +kernel
theorem dX8_begun_90 : decode cX8_begun 90 = .ok (.goto (-41), 3) := by decide +kernel
theorem dX8_begun_93 : decode cX8_begun 93 = .ok (.iload_n 3, 1) := by decide +kernel
theorem dX8_begun_94 : decode cX8_begun 94 = .ok (.ireturn, 1) := by decide +kernel
set_option maxRecDepth 20000 in
theorem ggX8_tryHand_X3_become : GoodIn wsX8_tryHand wsX3_become := goodIn_r _ [8, 9, 10, 11, 12, 13, 14, 27, 28, 29, 30, 31, 32, 33] (by decide +kernel) (by decide +kernel)
set_option maxRecDepth 20000 in
theorem gX8_tryHand_X3_become : GoodIn wsX8_tryHand (wsV RX8 147 RX3 yX3_become wsX3_become) := goodIn_app (goodIn_of _ (by decide +kernel)) ggX8_tryHand_X3_become
theorem dX8_tryHand_0 : decode cX8_tryHand 0 = .ok (.aload_n 0, 1) := by decide +kernel
theorem dX8_tryHand_1 : decode cX8_tryHand 1 = .ok (.getfield 39, 3) := by decide +kernel
theorem dX8_tryHand_4 : decode cX8_tryHand 4 = .ok (.aload_n 0, 1) := by decide +kernel
theorem dX8_tryHand_5 : decode cX8_tryHand 5 = .ok (.getfield 35, 3) := by decide +kernel
theorem dX8_tryHand_8 : decode cX8_tryHand 8 = .ok (.invokevirtual 147, 3) := by decide +kernel
theorem dX8_tryHand_11 : decode cX8_tryHand 11 = .ok (.aload_n 0, 1) := by decide +kernel
theorem dX8_tryHand_12 : decode cX8_tryHand 12 = .ok (.getfield 39, 3) := by decide +kernel
theorem dX8_tryHand_15 : decode cX8_tryHand 15 = .ok (.getfield 196, 3) := by decide +kernel
theorem dX8_tryHand_18 : decode cX8_tryHand 18 = .ok (.iload_n 1, 1) := by decide +kernel
theorem dX8_tryHand_19 : decode cX8_tryHand 19 = .ok (.iload_n 2, 1) := by decide +kernel
theorem dX8_tryHand_20 : decode cX8_tryHand 20 = .ok (.iastore, 1) := by decide +kernel
theorem dX8_tryHand_21 : decode cX8_tryHand 21 = .ok (.return_, 1) := by decide +kernel
set_option maxRecDepth 20000 in
theorem ggX8_odds_X8_isHand : GoodIn wsX8_odds wsX8_isHand := goodIn_r _ [6] (by decide +kernel) (by decide +kernel)
set_option maxRecDepth 20000 in
theorem gX8_odds_X8_isHand : GoodIn wsX8_odds (va_wsS RX8 193 yX8_isHand wsX8_isHand) := goodIn_app (goodIn_of _ (by decide +kernel)) ggX8_odds_X8_isHand
set_option maxRecDepth 20000 in
theorem ggX8_odds_X8_areOdds : GoodIn wsX8_odds wsX8_areOdds := goodIn_r _ [9, 10, 11, 5, 12] (by decide +kernel) (by decide +kernel)
set_option maxRecDepth 20000 in
theorem gX8_odds_X8_areOdds : GoodIn wsX8_odds (va_wsS RX8 251 yX8_areOdds wsX8_areOdds) := goodIn_app (goodIn_of _ (by decide +kernel)) ggX8_odds_X8_areOdds
set_option maxRecDepth 20000 in
theorem ggX8_odds_X8_winsOf : GoodIn wsX8_odds wsX8_winsOf := goodIn_r _ [15, 16, 17, 5, 18, 19, 20, 21] (by decide +kernel) (by decide +kernel)
set_option maxRecDepth 20000 in
theorem gX8_odds_X8_winsOf : GoodIn wsX8_odds (va_wsS RX8 254 yX8_winsOf wsX8_winsOf) := goodIn_app (goodIn_of _ (by decide +kernel)) ggX8_odds_X8_winsOf
set_option maxRecDepth 20000 in
theorem ggX8_odds_X8_lossesOf : GoodIn wsX8_odds wsX8_lossesOf := goodIn_r _ [24, 16, 17, 5, 18, 19, 20, 21] (by decide +kernel) (by decide +kernel)
set_option maxRecDepth 20000 in
theorem gX8_odds_X8_lossesOf : GoodIn wsX8_odds (va_wsS RX8 258 yX8_lossesOf wsX8_lossesOf) := goodIn_app (goodIn_of _ (by decide +kernel)) ggX8_odds_X8_lossesOf
set_option maxRecDepth 20000 in
theorem ggX8_odds_X8_commonDivisor : GoodIn wsX8_odds wsX8_commonDivisor := goodIn_r _ [27] (by decide +kernel) (by decide +kernel)
set_option maxRecDepth 20000 in
theorem gX8_odds_X8_commonDivisor : GoodIn wsX8_odds (va_wsS RX8 261 yX8_commonDivisor wsX8_commonDivisor) := goodIn_app (goodIn_of _ (by decide +kernel)) ggX8_odds_X8_commonDivisor
theorem dX8_odds_0 : decode cX8_odds 0 = .ok (.iload_n 1, 1) := by decide +kernel
theorem dX8_odds_1 : decode cX8_odds 1 = .ok (.invokestatic 193, 3) := by decide +kernel
theorem dX8_odds_4 : decode cX8_odds 4 = .ok (.ifCond .eq 24, 3) := by decide +kernel
theorem dX8_odds_7 : decode cX8_odds 7 = .ok (.iload_n 2, 1) := by decide +kernel
theorem dX8_odds_8 : decode cX8_odds 8 = .ok (.iload_n 3, 1) := by decide +kernel
theorem dX8_odds_9 : decode cX8_odds 9 = .ok (.iload 4, 2) := by decide +kernel
theorem dX8_odds_11 : decode cX8_odds 11 = .ok (.invokestatic 251, 3) := by decide +kernel
theorem dX8_odds_14 : decode cX8_odds 14 = .ok (.ifCond .eq 14, 3) := by decide +kernel
theorem dX8_odds_17 : decode cX8_odds 17 = .ok (.iload 5, 2) := by decide +kernel
theorem dX8_odds_19 : decode cX8_odds 19 = .ok (.ifCond .lt 9, 3) := by decide +kernel
theorem dX8_odds_22 : decode cX8_odds 22 = .ok (.iload 5, 2) := by decide +kernel
theorem dX8_odds_24 : decode cX8_odds 24 = .ok (.iconst 1, 1) := by decide +kernel
theorem dX8_odds_25 : decode cX8_odds 25 = .ok (.if_icmp .le 6, 3) := by decide +kernel
theorem dX8_odds_28 : decode cX8_odds 28 = .ok (.ldc 82, 2) := by decide +kernel
theorem dX8_odds_30 : decode cX8_odds 30 = .ok (.ireturn, 1) := by decide +kernel
theorem dX8_odds_31 : decode cX8_odds 31 = .ok (.iload_n 1, 1) := by decide +kernel
theorem dX8_odds_32 : decode cX8_odds 32 = .ok (.iload_n 2, 1) := by decide +kernel
theorem dX8_odds_33 : decode cX8_odds 33 = .ok (.iload_n 3, 1) := by decide +kernel
theorem dX8_odds_34 : decode cX8_odds 34 = .ok (.iload 4, 2) := by decide +kernel
theorem dX8_odds_36 : decode cX8_odds 36 = .ok (.invokestatic 254, 3) := by decide +kernel
theorem dX8_odds_39 : decode cX8_odds 39 = .ok (.istore 6, 2) := by decide +kernel
theorem dX8_odds_41 : decode cX8_odds 41 = .ok (.iload 6, 2) := by decide +kernel
theorem dX8_odds_43 : decode cX8_odds 43 = .ok (.iload_n 1, 1) := by decide +kernel
theorem dX8_odds_44 : decode cX8_odds 44 = .ok (.iload_n 2, 1) := by decide +kernel
theorem dX8_odds_45 : decode cX8_odds 45 = .ok (.iload_n 3, 1) := by decide +kernel
theorem dX8_odds_46 : decode cX8_odds 46 = .ok (.iload 4, 2) := by decide +kernel
theorem dX8_odds_48 : decode cX8_odds 48 = .ok (.invokestatic 258, 3) := by decide +kernel
theorem dX8_odds_51 : decode cX8_odds 51 = .ok (.iadd, 1) := by decide +kernel
theorem dX8_odds_52 : decode cX8_odds 52 = .ok (.istore 7, 2) := by decide +kernel
theorem dX8_odds_54 : decode cX8_odds 54 = .ok (.iload 7, 2) := by decide +kernel
theorem dX8_odds_56 : decode cX8_odds 56 = .ok (.ifCond .ne 6, 3) := by decide +kernel
theorem dX8_odds_59 : decode cX8_odds 59 = .ok (.ldc 244, 2) := by decide +kernel
theorem dX8_odds_61 : decode cX8_odds 61 = .ok (.ireturn, 1) := by decide +kernel
theorem dX8_odds_62 : decode cX8_odds 62 = .ok (.iload 6, 2) := by decide +kernel
theorem dX8_odds_64 : decode cX8_odds 64 = .ok (.iload 7, 2) := by decide +kernel
theorem dX8_odds_66 : decode cX8_odds 66 = .ok (.invokestatic 261, 3) := by decide +kernel
theorem dX8_odds_69 : decode cX8_odds 69 = .ok (.istore 8, 2) := by decide +kernel
theorem dX8_odds_71 : decode cX8_odds 71 = .ok (.iload 5, 2) := by decide +kernel
theorem dX8_odds_73 : decode cX8_odds 73 = .ok (.ifCond .ne 8, 3) := by decide +kernel
theorem dX8_odds_76 : decode cX8_odds 76 = .ok (.iload 6, 2) := by decide +kernel
theorem dX8_odds_78 : decode cX8_odds 78 = .ok (.goto 5, 3) := by decide +kernel
theorem dX8_odds_81 : decode cX8_odds 81 = .ok (.iload 7, 2) := by decide +kernel
theorem dX8_odds_83 : decode cX8_odds 83 = .ok (.iload 8, 2) := by decide +kernel
theorem dX8_odds_85 : decode cX8_odds 85 = .ok (.idiv, 1) := by decide +kernel
theorem dX8_odds_86 : decode cX8_odds 86 = .ok (.ireturn, 1) := by decide +kernel
set_option maxRecDepth 20000 in
theorem ggX8_gain_X8_areOdds : GoodIn wsX8_gain wsX8_areOdds := goodIn_r _ [6, 7, 8, 5, 9] (by decide +kernel) (by decide +kernel)
set_option maxRecDepth 20000 in
theorem gX8_gain_X8_areOdds : GoodIn wsX8_gain (va_wsS RX8 251 yX8_areOdds wsX8_areOdds) := goodIn_app (goodIn_of _ (by decide +kernel)) ggX8_gain_X8_areOdds
set_option maxRecDepth 20000 in
theorem ggX8_gain_X8_winsOf : GoodIn wsX8_gain wsX8_winsOf := goodIn_r _ [12, 13, 14, 5, 15, 16, 17, 18] (by decide +kernel) (by decide +kernel)
set_option maxRecDepth 20000 in
theorem gX8_gain_X8_winsOf : GoodIn wsX8_gain (va_wsS RX8 254 yX8_winsOf wsX8_winsOf) := goodIn_app (goodIn_of _ (by decide +kernel)) ggX8_gain_X8_winsOf
set_option maxRecDepth 20000 in
theorem ggX8_gain_X8_lossesOf : GoodIn wsX8_gain wsX8_lossesOf := goodIn_r _ [21, 13, 14, 5, 15, 16, 17, 18] (by decide +kernel) (by decide +kernel)
set_option maxRecDepth 20000 in
theorem gX8_gain_X8_lossesOf : GoodIn wsX8_gain (va_wsS RX8 258 yX8_lossesOf wsX8_lossesOf) := goodIn_app (goodIn_of _ (by decide +kernel)) ggX8_gain_X8_lossesOf
theorem dX8_gain_0 : decode cX8_gain 0 = .ok (.iload_n 1, 1) := by decide +kernel
theorem dX8_gain_1 : decode cX8_gain 1 = .ok (.iload_n 2, 1) := by decide +kernel
theorem dX8_gain_2 : decode cX8_gain 2 = .ok (.iload_n 3, 1) := by decide +kernel
theorem dX8_gain_3 : decode cX8_gain 3 = .ok (.invokestatic 251, 3) := by decide +kernel
theorem dX8_gain_6 : decode cX8_gain 6 = .ok (.ifCond .ne 6, 3) := by decide +kernel
theorem dX8_gain_9 : decode cX8_gain 9 = .ok (.ldc 82, 2) := by decide +kernel
theorem dX8_gain_11 : decode cX8_gain 11 = .ok (.ireturn, 1) := by decide +kernel
theorem dX8_gain_12 : decode cX8_gain 12 = .ok (.ldc 244, 2) := by decide +kernel
theorem dX8_gain_14 : decode cX8_gain 14 = .ok (.istore 4, 2) := by decide +kernel
theorem dX8_gain_16 : decode cX8_gain 16 = .ok (.iconst 0, 1) := by decide +kernel
theorem dX8_gain_17 : decode cX8_gain 17 = .ok (.istore 5, 2) := by decide +kernel
theorem dX8_gain_19 : decode cX8_gain 19 = .ok (.iconst 0, 1) := by decide +kernel
theorem dX8_gain_20 : decode cX8_gain 20 = .ok (.istore 6, 2) := by decide +kernel
theorem dX8_gain_22 : decode cX8_gain 22 = .ok (.iconst 0, 1) := by decide +kernel
theorem dX8_gain_23 : decode cX8_gain 23 = .ok (.istore 7, 2) := by decide +kernel
theorem dX8_gain_25 : decode cX8_gain 25 = .ok (.iload 7, 2) := by decide +kernel
theorem dX8_gain_27 : decode cX8_gain 27 = .ok (.iconst 3, 1) := by decide +kernel
theorem dX8_gain_28 : decode cX8_gain 28 = .ok (.if_icmp .ge 69, 3) := by decide +kernel
theorem dX8_gain_31 : decode cX8_gain 31 = .ok (.iload 7, 2) := by decide +kernel
theorem dX8_gain_33 : decode cX8_gain 33 = .ok (.iload_n 1, 1) := by decide +kernel
theorem dX8_gain_34 : decode cX8_gain 34 = .ok (.iload_n 2, 1) := by decide +kernel
theorem dX8_gain_35 : decode cX8_gain 35 = .ok (.iload_n 3, 1) := by decide +kernel
theorem dX8_gain_36 : decode cX8_gain 36 = .ok (.invokestatic 254, 3) := by decide +kernel
theorem dX8_gain_39 : decode cX8_gain 39 = .ok (.istore 8, 2) := by decide +kernel
theorem dX8_gain_41 : decode cX8_gain 41 = .ok (.iload 8, 2) := by decide +kernel
theorem dX8_gain_43 : decode cX8_gain 43 = .ok (.iload 7, 2) := by decide +kernel
theorem dX8_gain_45 : decode cX8_gain 45 = .ok (.iload_n 1, 1) := by decide +kernel
theorem dX8_gain_46 : decode cX8_gain 46 = .ok (.iload_n 2, 1) := by decide +kernel
theorem dX8_gain_47 : decode cX8_gain 47 = .ok (.iload_n 3, 1) := by decide +kernel
theorem dX8_gain_48 : decode cX8_gain 48 = .ok (.invokestatic 258, 3) := by decide +kernel
theorem dX8_gain_51 : decode cX8_gain 51 = .ok (.iadd, 1) := by decide +kernel
theorem dX8_gain_52 : decode cX8_gain 52 = .ok (.istore 9, 2) := by decide +kernel
theorem dX8_gain_54 : decode cX8_gain 54 = .ok (.iload 9, 2) := by decide +kernel
theorem dX8_gain_56 : decode cX8_gain 56 = .ok (.ifCond .le 35, 3) := by decide +kernel
theorem dX8_gain_59 : decode cX8_gain 59 = .ok (.iload 4, 2) := by decide +kernel
theorem dX8_gain_61 : decode cX8_gain 61 = .ok (.ldc 244, 2) := by decide +kernel
theorem dX8_gain_63 : decode cX8_gain 63 = .ok (.if_icmp .eq 16, 3) := by decide +kernel
theorem dX8_gain_66 : decode cX8_gain 66 = .ok (.iload 8, 2) := by decide +kernel
theorem dX8_gain_68 : decode cX8_gain 68 = .ok (.iload 6, 2) := by decide +kernel
theorem dX8_gain_70 : decode cX8_gain 70 = .ok (.imul, 1) := by decide +kernel
theorem dX8_gain_71 : decode cX8_gain 71 = .ok (.iload 5, 2) := by decide +kernel
theorem dX8_gain_73 : decode cX8_gain 73 = .ok (.iload 9, 2) := by decide +kernel
theorem dX8_gain_75 : decode cX8_gain 75 = .ok (.imul, 1) := by decide +kernel
theorem dX8_gain_76 : decode cX8_gain 76 = .ok (.if_icmp .le 15, 3) := by decide +kernel
theorem dX8_gain_79 : decode cX8_gain 79 = .ok (.iload 7, 2) := by decide +kernel
theorem dX8_gain_81 : decode cX8_gain 81 = .ok (.istore 4, 2) := by decide +kernel
theorem dX8_gain_83 : decode cX8_gain 83 = .ok (.iload 8, 2) := by decide +kernel
theorem dX8_gain_85 : decode cX8_gain 85 = .ok (.istore 5, 2) := by decide +kernel
theorem dX8_gain_87 : decode cX8_gain 87 = .ok (.iload 9, 2) := by decide +kernel
theorem dX8_gain_89 : decode cX8_gain 89 = .ok (.istore 6, 2) := by decide +kernel
theorem dX8_gain_91 : decode cX8_gain 91 = .ok (.iinc 7 1, 3) := by decide +kernel
theorem dX8_gain_94 : decode cX8_gain 94 = .ok (.goto (-69), 3) := by decide +kernel
theorem dX8_gain_97 : decode cX8_gain 97 = .ok (.iload 4, 2) := by decide +kernel
theorem dX8_gain_99 : decode cX8_gain 99 = .ok (.ireturn, 1) := by decide +kernel
set_option maxRecDepth 20000 in
theorem ggX8_areOdds_X8_isShare : GoodIn wsX8_areOdds wsX8_isShare := goodIn_r _ [4] (by decide +kernel) (by decide +kernel)
set_option maxRecDepth 20000 in
theorem gX8_areOdds_X8_isShare : GoodIn wsX8_areOdds (va_wsS RX8 264 yX8_isShare wsX8_isShare) := goodIn_app (goodIn_of _ (by decide +kernel)) ggX8_areOdds_X8_isShare
theorem dX8_areOdds_0 : decode cX8_areOdds 0 = .ok (.iload_n 0, 1) := by decide +kernel
theorem dX8_areOdds_1 : decode cX8_areOdds 1 = .ok (.invokestatic 264, 3) := by decide +kernel
theorem dX8_areOdds_4 : decode cX8_areOdds 4 = .ok (.ifCond .eq 31, 3) := by decide +kernel
theorem dX8_areOdds_7 : decode cX8_areOdds 7 = .ok (.iload_n 1, 1) := by decide +kernel
theorem dX8_areOdds_8 : decode cX8_areOdds 8 = .ok (.invokestatic 264, 3) := by decide +kernel
theorem dX8_areOdds_11 : decode cX8_areOdds 11 = .ok (.ifCond .eq 24, 3) := by decide +kernel
theorem dX8_areOdds_14 : decode cX8_areOdds 14 = .ok (.iload_n 2, 1) := by decide +kernel
theorem dX8_areOdds_15 : decode cX8_areOdds 15 = .ok (.invokestatic 264, 3) := by decide +kernel
theorem dX8_areOdds_18 : decode cX8_areOdds 18 = .ok (.ifCond .eq 17, 3) := by decide +kernel
theorem dX8_areOdds_21 : decode cX8_areOdds 21 = .ok (.iload_n 0, 1) := by decide +kernel
theorem dX8_areOdds_22 : decode cX8_areOdds 22 = .ok (.iload_n 1, 1) := by decide +kernel
theorem dX8_areOdds_23 : decode cX8_areOdds 23 = .ok (.iadd, 1) := by decide +kernel
theorem dX8_areOdds_24 : decode cX8_areOdds 24 = .ok (.iload_n 2, 1) := by decide +kernel
theorem dX8_areOdds_25 : decode cX8_areOdds 25 = .ok (.iadd, 1) := by decide +kernel
theorem dX8_areOdds_26 : decode cX8_areOdds 26 = .ok (.bipush 9, 2) := by decide +kernel
theorem dX8_areOdds_28 : decode cX8_areOdds 28 = .ok (.if_icmp .ne 7, 3) := by decide +kernel
theorem dX8_areOdds_31 : decode cX8_areOdds 31 = .ok (.iconst 1, 1) := by decide +kernel
theorem dX8_areOdds_32 : decode cX8_areOdds 32 = .ok (.goto 4, 3) := by decide +kernel
theorem dX8_areOdds_35 : decode cX8_areOdds 35 = .ok (.iconst 0, 1) := by decide +kernel
theorem dX8_areOdds_36 : decode cX8_areOdds 36 = .ok (.ireturn, 1) := by decide +kernel
theorem dX8_isShare_0 : decode cX8_isShare 0 = .ok (.iload_n 0, 1) := by decide +kernel
theorem dX8_isShare_1 : decode cX8_isShare 1 = .ok (.ifCond .lt 13, 3) := by decide +kernel
theorem dX8_isShare_4 : decode cX8_isShare 4 = .ok (.iload_n 0, 1) := by decide +kernel
theorem dX8_isShare_5 : decode cX8_isShare 5 = .ok (.bipush 9, 2) := by decide +kernel
theorem dX8_isShare_7 : decode cX8_isShare 7 = .ok (.if_icmp .gt 7, 3) := by decide +kernel
theorem dX8_isShare_10 : decode cX8_isShare 10 = .ok (.iconst 1, 1) := by decide +kernel
theorem dX8_isShare_11 : decode cX8_isShare 11 = .ok (.goto 4, 3) := by decide +kernel
theorem dX8_isShare_14 : decode cX8_isShare 14 = .ok (.iconst 0, 1) := by decide +kernel
theorem dX8_isShare_15 : decode cX8_isShare 15 = .ok (.ireturn, 1) := by decide +kernel
set_option maxRecDepth 20000 in
theorem ggX8_winsOf_X8_nextOf : GoodIn wsX8_winsOf wsX8_nextOf := goodIn_r _ [4] (by decide +kernel) (by decide +kernel)
set_option maxRecDepth 20000 in
theorem gX8_winsOf_X8_nextOf : GoodIn wsX8_winsOf (va_wsS RX8 267 yX8_nextOf wsX8_nextOf) := goodIn_app (goodIn_of _ (by decide +kernel)) ggX8_winsOf_X8_nextOf
set_option maxRecDepth 20000 in
theorem ggX8_winsOf_X8_shareOf : GoodIn wsX8_winsOf wsX8_shareOf := goodIn_r _ [7] (by decide +kernel) (by decide +kernel)
set_option maxRecDepth 20000 in
theorem gX8_winsOf_X8_shareOf : GoodIn wsX8_winsOf (va_wsS RX8 270 yX8_shareOf wsX8_shareOf) := goodIn_app (goodIn_of _ (by decide +kernel)) ggX8_winsOf_X8_shareOf
theorem dX8_winsOf_0 : decode cX8_winsOf 0 = .ok (.iload_n 0, 1) := by decide +kernel
theorem dX8_winsOf_1 : decode cX8_winsOf 1 = .ok (.invokestatic 267, 3) := by decide +kernel
theorem dX8_winsOf_4 : decode cX8_winsOf 4 = .ok (.invokestatic 267, 3) := by decide +kernel
theorem dX8_winsOf_7 : decode cX8_winsOf 7 = .ok (.iload_n 1, 1) := by decide +kernel
theorem dX8_winsOf_8 : decode cX8_winsOf 8 = .ok (.iload_n 2, 1) := by decide +kernel
theorem dX8_winsOf_9 : decode cX8_winsOf 9 = .ok (.iload_n 3, 1) := by decide +kernel
theorem dX8_winsOf_10 : decode cX8_winsOf 10 = .ok (.invokestatic 270, 3) := by decide +kernel
theorem dX8_winsOf_13 : decode cX8_winsOf 13 = .ok (.ireturn, 1) := by decide +kernel
set_option maxRecDepth 20000 in
theorem ggX8_lossesOf_X8_nextOf : GoodIn wsX8_lossesOf wsX8_nextOf := goodIn_r _ [4] (by decide +kernel) (by decide +kernel)
set_option maxRecDepth 20000 in
theorem gX8_lossesOf_X8_nextOf : GoodIn wsX8_lossesOf (va_wsS RX8 267 yX8_nextOf wsX8_nextOf) := goodIn_app (goodIn_of _ (by decide +kernel)) ggX8_lossesOf_X8_nextOf
set_option maxRecDepth 20000 in
theorem ggX8_lossesOf_X8_shareOf : GoodIn wsX8_lossesOf wsX8_shareOf := goodIn_r _ [7] (by decide +kernel) (by decide +kernel)
set_option maxRecDepth 20000 in
theorem gX8_lossesOf_X8_shareOf : GoodIn wsX8_lossesOf (va_wsS RX8 270 yX8_shareOf wsX8_shareOf) := goodIn_app (goodIn_of _ (by decide +kernel)) ggX8_lossesOf_X8_shareOf
theorem dX8_lossesOf_0 : decode cX8_lossesOf 0 = .ok (.iload_n 0, 1) := by decide +kernel
theorem dX8_lossesOf_1 : decode cX8_lossesOf 1 = .ok (.invokestatic 267, 3) := by decide +kernel
theorem dX8_lossesOf_4 : decode cX8_lossesOf 4 = .ok (.iload_n 1, 1) := by decide +kernel
theorem dX8_lossesOf_5 : decode cX8_lossesOf 5 = .ok (.iload_n 2, 1) := by decide +kernel
theorem dX8_lossesOf_6 : decode cX8_lossesOf 6 = .ok (.iload_n 3, 1) := by decide +kernel
theorem dX8_lossesOf_7 : decode cX8_lossesOf 7 = .ok (.invokestatic 270, 3) := by decide +kernel
theorem dX8_lossesOf_10 : decode cX8_lossesOf 10 = .ok (.ireturn, 1) := by decide +kernel
theorem dX8_shareOf_0 : decode cX8_shareOf 0 = .ok (.iload_n 0, 1) := by decide +kernel
theorem dX8_shareOf_1 : decode cX8_shareOf 1 = .ok (.ifCond .ne 7, 3) := by decide +kernel
theorem dX8_shareOf_4 : decode cX8_shareOf 4 = .ok (.iload_n 1, 1) := by decide +kernel
theorem dX8_shareOf_5 : decode cX8_shareOf 5 = .ok (.goto 13, 3) := by decide +kernel
theorem dX8_shareOf_8 : decode cX8_shareOf 8 = .ok (.iload_n 0, 1) := by decide +kernel
theorem dX8_shareOf_9 : decode cX8_shareOf 9 = .ok (.iconst 1, 1) := by decide +kernel
theorem dX8_shareOf_10 : decode cX8_shareOf 10 = .ok (.if_icmp .ne 7, 3) := by decide +kernel
theorem dX8_shareOf_13 : decode cX8_shareOf 13 = .ok (.iload_n 2, 1) := by decide +kernel
theorem dX8_shareOf_14 : decode cX8_shareOf 14 = .ok (.goto 4, 3) := by decide +kernel
theorem dX8_shareOf_17 : decode cX8_shareOf 17 = .ok (.iload_n 3, 1) := by decide +kernel
theorem dX8_shareOf_18 : decode cX8_shareOf 18 = .ok (.ireturn, 1) := by decide +kernel
theorem dX8_commonDivisor_0 : decode cX8_commonDivisor 0 = .ok (.bipush 9, 2) := by decide +kernel
theorem dX8_commonDivisor_2 : decode cX8_commonDivisor 2 = .ok (.istore_n 2, 1) := by decide +kernel
theorem dX8_commonDivisor_3 : decode cX8_commonDivisor 3 = .ok (.iload_n 2, 1) := by decide +kernel
theorem dX8_commonDivisor_4 : decode cX8_commonDivisor 4 = .ok (.iconst 1, 1) := by decide +kernel
theorem dX8_commonDivisor_5 : decode cX8_commonDivisor 5 = .ok (.if_icmp .le 23, 3) := by decide +kernel
theorem dX8_commonDivisor_8 : decode cX8_commonDivisor 8 = .ok (.iload_n 0, 1) := by decide +kernel
theorem dX8_commonDivisor_9 : decode cX8_commonDivisor 9 = .ok (.iload_n 2, 1) := by decide +kernel
theorem dX8_commonDivisor_10 : decode cX8_commonDivisor 10 = .ok (.irem, 1) := by decide +kernel
theorem dX8_commonDivisor_11 : decode cX8_commonDivisor 11 = .ok (.ifCond .ne 11, 3) := by decide +kernel
theorem dX8_commonDivisor_14 : decode cX8_commonDivisor 14 = .ok (.iload_n 1, 1) := by decide +kernel
theorem dX8_commonDivisor_15 : decode cX8_commonDivisor 15 = .ok (.iload_n 2, 1) := by decide +kernel
theorem dX8_commonDivisor_16 : decode cX8_commonDivisor 16 = .ok (.irem, 1) := by decide +kernel
theorem dX8_commonDivisor_17 : decode cX8_commonDivisor 17 = .ok (.ifCond .ne 5, 3) := by decide +kernel
theorem dX8_commonDivisor_20 : decode cX8_commonDivisor 20 = .ok (.iload_n 2, 1) := by decide +kernel
theorem dX8_commonDivisor_21 : decode cX8_commonDivisor 21 = .ok (.ireturn, 1) := by decide +kernel
theorem dX8_commonDivisor_22 : decode cX8_commonDivisor 22 = .ok (.iinc 2 (-1), 3) := by decide +kernel
theorem dX8_commonDivisor_25 : decode cX8_commonDivisor 25 = .ok (.goto (-22), 3) := by decide +kernel
theorem dX8_commonDivisor_28 : decode cX8_commonDivisor 28 = .ok (.iconst 1, 1) := by decide +kernel
theorem dX8_commonDivisor_29 : decode cX8_commonDivisor 29 = .ok (.ireturn, 1) := by decide +kernel
set_option maxRecDepth 20000 in
theorem ggX8_image_X8_isImage : GoodIn wsX8_image wsX8_isImage := goodIn_r _ [9] (by decide +kernel) (by decide +kernel)
set_option maxRecDepth 20000 in
theorem gX8_image_X8_isImage : GoodIn wsX8_image (va_wsS RX8 273 yX8_isImage wsX8_isImage) := goodIn_app (goodIn_of _ (by decide +kernel)) ggX8_image_X8_isImage
set_option maxRecDepth 20000 in
theorem ggX8_image_X3_isMissing : GoodIn wsX8_image wsX3_isMissing := goodIn_r _ [14, 15, 37, 38, 39, 40, 41, 42, 43] (by decide +kernel) (by decide +kernel)
set_option maxRecDepth 20000 in
theorem gX8_image_X3_isMissing : GoodIn wsX8_image (wsV RX8 199 RX3 yX3_isMissing wsX3_isMissing) := goodIn_app (goodIn_of _ (by decide +kernel)) ggX8_image_X3_isMissing
set_option maxRecDepth 20000 in
theorem ggX8_image_X3_save : GoodIn wsX8_image wsX3_save := goodIn_r _ [19, 15, 20, 21, 22, 23, 24, 37, 38, 39, 40, 41, 42, 43] (by decide +kernel) (by decide +kernel)
set_option maxRecDepth 20000 in
theorem gX8_image_X3_save : GoodIn wsX8_image (wsV RX8 276 RX3 yX3_save wsX3_save) := goodIn_app (goodIn_of _ (by decide +kernel)) ggX8_image_X3_save
theorem dX8_image_0 : decode cX8_image 0 = .ok (.iload_n 1, 1) := by decide +kernel
theorem dX8_image_1 : decode cX8_image 1 = .ok (.invokestatic 273, 3) := by decide +kernel
theorem dX8_image_4 : decode cX8_image 4 = .ok (.ifCond .ne 6, 3) := by decide +kernel
theorem dX8_image_7 : decode cX8_image 7 = .ok (.ldc 82, 2) := by decide +kernel
theorem dX8_image_9 : decode cX8_image 9 = .ok (.ireturn, 1) := by decide +kernel
theorem dX8_image_10 : decode cX8_image 10 = .ok (.aload_n 0, 1) := by decide +kernel
theorem dX8_image_11 : decode cX8_image 11 = .ok (.getfield 35, 3) := by decide +kernel
theorem dX8_image_14 : decode cX8_image 14 = .ok (.invokevirtual 199, 3) := by decide +kernel
theorem dX8_image_17 : decode cX8_image 17 = .ok (.ifCond .eq 6, 3) := by decide +kernel
theorem dX8_image_20 : decode cX8_image 20 = .ok (.ldc 164, 2) := by decide +kernel
theorem dX8_image_22 : decode cX8_image 22 = .ok (.ireturn, 1) := by decide +kernel
theorem dX8_image_23 : decode cX8_image 23 = .ok (.aload_n 0, 1) := by decide +kernel
theorem dX8_image_24 : decode cX8_image 24 = .ok (.getfield 35, 3) := by decide +kernel
theorem dX8_image_27 : decode cX8_image 27 = .ok (.aload_n 0, 1) := by decide +kernel
theorem dX8_image_28 : decode cX8_image 28 = .ok (.getfield 63, 3) := by decide +kernel
theorem dX8_image_31 : decode cX8_image 31 = .ok (.iload_n 1, 1) := by decide +kernel
theorem dX8_image_32 : decode cX8_image 32 = .ok (.bipush 27, 2) := by decide +kernel
theorem dX8_image_34 : decode cX8_image 34 = .ok (.imul, 1) := by decide +kernel
theorem dX8_image_35 : decode cX8_image 35 = .ok (.invokevirtual 276, 3) := by decide +kernel
theorem dX8_image_38 : decode cX8_image 38 = .ok (.aload_n 0, 1) := by decide +kernel
theorem dX8_image_39 : decode cX8_image 39 = .ok (.getfield 67, 3) := by decide +kernel
theorem dX8_image_42 : decode cX8_image 42 = .ok (.iload_n 1, 1) := by decide +kernel
theorem dX8_image_43 : decode cX8_image 43 = .ok (.iconst 1, 1) := by decide +kernel
theorem dX8_image_44 : decode cX8_image 44 = .ok (.bastore, 1) := by decide +kernel
theorem dX8_image_45 : decode cX8_image 45 = .ok (.iconst 1, 1) := by decide +kernel
theorem dX8_image_46 : decode cX8_image 46 = .ok (.ireturn, 1) := by decide +kernel
set_option maxRecDepth 20000 in
theorem ggX8_restore_X8_isImage : GoodIn wsX8_restore wsX8_isImage := goodIn_r _ [10] (by decide +kernel) (by decide +kernel)
set_option maxRecDepth 20000 in
theorem gX8_restore_X8_isImage : GoodIn wsX8_restore (va_wsS RX8 273 yX8_isImage wsX8_isImage) := goodIn_app (goodIn_of _ (by decide +kernel)) ggX8_restore_X8_isImage
set_option maxRecDepth 20000 in
theorem ggX8_restore_X3_load : GoodIn wsX8_restore wsX3_load := goodIn_r _ [15, 16, 17, 18, 19, 20, 21, 40, 41, 42, 43, 44, 45, 46] (by decide +kernel) (by decide +kernel)
set_option maxRecDepth 20000 in
theorem gX8_restore_X3_load : GoodIn wsX8_restore (wsV RX8 280 RX3 yX3_load wsX3_load) := goodIn_app (goodIn_of _ (by decide +kernel)) ggX8_restore_X3_load
set_option maxRecDepth 20000 in
theorem ggX8_restore_X0_forget : GoodIn wsX8_restore wsX0_forget := goodIn_r _ [26, 27, 47, 48, 49] (by decide +kernel) (by decide +kernel)
set_option maxRecDepth 20000 in
theorem gX8_restore_X0_forget : GoodIn wsX8_restore (wsV RX8 151 RX0 yX0_forget wsX0_forget) := goodIn_app (goodIn_of _ (by decide +kernel)) ggX8_restore_X0_forget
theorem dX8_restore_0 : decode cX8_restore 0 = .ok (.iload_n 1, 1) := by decide +kernel
theorem dX8_restore_1 : decode cX8_restore 1 = .ok (.invokestatic 273, 3) := by decide +kernel
theorem dX8_restore_4 : decode cX8_restore 4 = .ok (.ifCond .ne 6, 3) := by decide +kernel
theorem dX8_restore_7 : decode cX8_restore 7 = .ok (.ldc 82, 2) := by decide +kernel
theorem dX8_restore_9 : decode cX8_restore 9 = .ok (.ireturn, 1) := by decide +kernel
theorem dX8_restore_10 : decode cX8_restore 10 = .ok (.aload_n 0, 1) := by decide +kernel
theorem dX8_restore_11 : decode cX8_restore 11 = .ok (.getfield 67, 3) := by decide +kernel
theorem dX8_restore_14 : decode cX8_restore 14 = .ok (.iload_n 1, 1) := by decide +kernel
theorem dX8_restore_15 : decode cX8_restore 15 = .ok (.baload, 1) := by decide +kernel
theorem dX8_restore_16 : decode cX8_restore 16 = .ok (.ifCond .ne 6, 3) := by decide +kernel
theorem dX8_restore_19 : decode cX8_restore 19 = .ok (.ldc 164, 2) := by decide +kernel
theorem dX8_restore_21 : decode cX8_restore 21 = .ok (.ireturn, 1) := by decide +kernel
theorem dX8_restore_22 : decode cX8_restore 22 = .ok (.aload_n 0, 1) := by decide +kernel
theorem dX8_restore_23 : decode cX8_restore 23 = .ok (.getfield 35, 3) := by decide +kernel
theorem dX8_restore_26 : decode cX8_restore 26 = .ok (.aload_n 0, 1) := by decide +kernel
theorem dX8_restore_27 : decode cX8_restore 27 = .ok (.getfield 63, 3) := by decide +kernel
theorem dX8_restore_30 : decode cX8_restore 30 = .ok (.iload_n 1, 1) := by decide +kernel
theorem dX8_restore_31 : decode cX8_restore 31 = .ok (.bipush 27, 2) := by decide +kernel
theorem dX8_restore_33 : decode cX8_restore 33 = .ok (.imul, 1) := by decide +kernel
theorem dX8_restore_34 : decode cX8_restore 34 = .ok (.invokevirtual 280, 3) := by decide +kernel
theorem dX8_restore_37 : decode cX8_restore 37 = .ok (.aload_n 0, 1) := by decide +kernel
theorem dX8_restore_38 : decode cX8_restore 38 = .ok (.getfield 45, 3) := by decide +kernel
theorem dX8_restore_41 : decode cX8_restore 41 = .ok (.invokevirtual 151, 3) := by decide +kernel
theorem dX8_restore_44 : decode cX8_restore 44 = .ok (.iconst 1, 1) := by decide +kernel
theorem dX8_restore_45 : decode cX8_restore 45 = .ok (.ireturn, 1) := by decide +kernel
theorem dX8_isImage_0 : decode cX8_isImage 0 = .ok (.iload_n 0, 1) := by decide +kernel
theorem dX8_isImage_1 : decode cX8_isImage 1 = .ok (.ifCond .lt 12, 3) := by decide +kernel
theorem dX8_isImage_4 : decode cX8_isImage 4 = .ok (.iload_n 0, 1) := by decide +kernel
theorem dX8_isImage_5 : decode cX8_isImage 5 = .ok (.iconst 2, 1) := by decide +kernel
theorem dX8_isImage_6 : decode cX8_isImage 6 = .ok (.if_icmp .ge 7, 3) := by decide +kernel
theorem dX8_isImage_9 : decode cX8_isImage 9 = .ok (.iconst 1, 1) := by decide +kernel
theorem dX8_isImage_10 : decode cX8_isImage 10 = .ok (.goto 4, 3) := by decide +kernel
theorem dX8_isImage_13 : decode cX8_isImage 13 = .ok (.iconst 0, 1) := by decide +kernel
theorem dX8_isImage_14 : decode cX8_isImage 14 = .ok (.ireturn, 1) := by decide +kernel
set_option maxRecDepth 20000 in
theorem ggX8_kind_X8_isPlayer : GoodIn wsX8_kind wsX8_isPlayer := goodIn_r _ [8, 1, 9, 10, 11, 12, 13, 14, 15, 16, 17, 18, 19, 20, 21, 22, 23, 24, 25, 26, 27, 28] (by decide +kernel) (by decide +kernel)
set_option maxRecDepth 20000 in
theorem gX8_kind_X8_isPlayer : GoodIn wsX8_kind (wsV RX8 190 RX8 yX8_isPlayer wsX8_isPlayer) := goodIn_app (goodIn_of _ (by decide +kernel)) ggX8_kind_X8_isPlayer
theorem dX8_kind_0 : decode cX8_kind 0 = .ok (.aload_n 0, 1) := by decide +kernel
theorem dX8_kind_1 : decode cX8_kind 1 = .ok (.iload_n 1, 1) := by decide +kernel
theorem dX8_kind_2 : decode cX8_kind 2 = .ok (.invokevirtual 190, 3) := by decide +kernel
theorem dX8_kind_5 : decode cX8_kind 5 = .ok (.ifCond .eq 15, 3) := by decide +kernel
theorem dX8_kind_8 : decode cX8_kind 8 = .ok (.aload_n 0, 1) := by decide +kernel
theorem dX8_kind_9 : decode cX8_kind 9 = .ok (.getfield 35, 3) := by decide +kernel
theorem dX8_kind_12 : decode cX8_kind 12 = .ok (.getfield 283, 3) := by decide +kernel
theorem dX8_kind_15 : decode cX8_kind 15 = .ok (.iload_n 1, 1) := by decide +kernel
theorem dX8_kind_16 : decode cX8_kind 16 = .ok (.iaload, 1) := by decide +kernel
theorem dX8_kind_17 : decode cX8_kind 17 = .ok (.goto 5, 3) := by decide +kernel
theorem dX8_kind_20 : decode cX8_kind 20 = .ok (.ldc 82, 2) := by decide +kernel
theorem dX8_kind_22 : decode cX8_kind 22 = .ok (.ireturn, 1) := by decide +kernel
set_option maxRecDepth 20000 in
theorem ggX8_as_X8_isPlayer : GoodIn wsX8_as wsX8_isPlayer := goodIn_r _ [8, 2, 9, 26, 27, 28, 29, 30, 31, 32, 33, 34, 35, 36, 37, 38, 39, 40, 41, 42, 43, 44] (by decide +kernel) (by decide +kernel)
set_option maxRecDepth 20000 in
theorem gX8_as_X8_isPlayer : GoodIn wsX8_as (wsV RX8 190 RX8 yX8_isPlayer wsX8_isPlayer) := goodIn_app (goodIn_of _ (by decide +kernel)) ggX8_as_X8_isPlayer
set_option maxRecDepth 20000 in
theorem ggX8_as_X8_isOne : GoodIn wsX8_as wsX8_isOne := goodIn_r _ [12, 13, 14, 7, 15] (by decide +kernel) (by decide +kernel)
set_option maxRecDepth 20000 in
theorem gX8_as_X8_isOne : GoodIn wsX8_as (va_wsS RX8 286 yX8_isOne wsX8_isOne) := goodIn_app (goodIn_of _ (by decide +kernel)) ggX8_as_X8_isOne
set_option maxRecDepth 20000 in
theorem ggX8_as_X8_fine : GoodIn wsX8_as wsX8_fine := goodIn_r _ [19, 20, 26, 27, 28, 29, 30, 31, 32, 33, 34, 35, 36, 37] (by decide +kernel) (by decide +kernel)
set_option maxRecDepth 20000 in
theorem gX8_as_X8_fine : GoodIn wsX8_as (wsV RX8 91 RX8 yX8_fine wsX8_fine) := goodIn_app (goodIn_of _ (by decide +kernel)) ggX8_as_X8_fine
set_option maxRecDepth 20000 in
theorem ggX8_as_X8_found : GoodIn wsX8_as wsX8_found := goodIn_r _ [24, 20, 25, 26, 27, 28, 29, 30, 31, 32, 33, 34, 35, 36, 37] (by decide +kernel) (by decide +kernel)
set_option maxRecDepth 20000 in
theorem gX8_as_X8_found : GoodIn wsX8_as (wsV RX8 83 RX8 yX8_found wsX8_found) := goodIn_app (goodIn_of _ (by decide +kernel)) ggX8_as_X8_found
theorem dX8_as_0 : decode cX8_as 0 = .ok (.aload_n 0, 1) := by decide +kernel
theorem dX8_as_1 : decode cX8_as 1 = .ok (.iload_n 1, 1) := by decide +kernel
theorem dX8_as_2 : decode cX8_as 2 = .ok (.invokevirtual 190, 3) := by decide +kernel
theorem dX8_as_5 : decode cX8_as 5 = .ok (.ifCond .eq 12, 3) := by decide +kernel
theorem dX8_as_8 : decode cX8_as 8 = .ok (.iload_n 2, 1) := by decide +kernel
theorem dX8_as_9 : decode cX8_as 9 = .ok (.ifCond .lt 8, 3) := by decide +kernel
theorem dX8_as_12 : decode cX8_as 12 = .ok (.iload_n 2, 1) := by decide +kernel
theorem dX8_as_13 : decode cX8_as 13 = .ok (.iconst 5, 1) := by decide +kernel
theorem dX8_as_14 : decode cX8_as 14 = .ok (.if_icmp .le 6, 3) := by decide +kernel
theorem dX8_as_17 : decode cX8_as 17 = .ok (.ldc 82, 2) := by decide +kernel
theorem dX8_as_19 : decode cX8_as 19 = .ok (.ireturn, 1) := by decide +kernel
theorem dX8_as_20 : decode cX8_as 20 = .ok (.aload_n 0, 1) := by decide +kernel
theorem dX8_as_21 : decode cX8_as 21 = .ok (.getfield 35, 3) := by decide +kernel
theorem dX8_as_24 : decode cX8_as 24 = .ok (.getfield 283, 3) := by decide +kernel
theorem dX8_as_27 : decode cX8_as 27 = .ok (.iload_n 1, 1) := by decide +kernel
theorem dX8_as_28 : decode cX8_as 28 = .ok (.iaload, 1) := by decide +kernel
theorem dX8_as_29 : decode cX8_as 29 = .ok (.iload_n 2, 1) := by decide +kernel
theorem dX8_as_30 : decode cX8_as 30 = .ok (.invokestatic 286, 3) := by decide +kernel
theorem dX8_as_33 : decode cX8_as 33 = .ok (.ifCond .eq 11, 3) := by decide +kernel
theorem dX8_as_36 : decode cX8_as 36 = .ok (.aload_n 0, 1) := by decide +kernel
theorem dX8_as_37 : decode cX8_as 37 = .ok (.iload_n 1, 1) := by decide +kernel
theorem dX8_as_38 : decode cX8_as 38 = .ok (.invokevirtual 91, 3) := by decide +kernel
theorem dX8_as_41 : decode cX8_as 41 = .ok (.goto 8, 3) := by decide +kernel
theorem dX8_as_44 : decode cX8_as 44 = .ok (.aload_n 0, 1) := by decide +kernel
theorem dX8_as_45 : decode cX8_as 45 = .ok (.iconst 3, 1) := by decide +kernel
theorem dX8_as_46 : decode cX8_as 46 = .ok (.invokevirtual 83, 3) := by decide +kernel
theorem dX8_as_49 : decode cX8_as 49 = .ok (.ireturn, 1) := by decide +kernel
set_option maxRecDepth 20000 in
theorem ggX8_ask_X8_isPlayer : GoodIn wsX8_ask wsX8_isPlayer := goodIn_r _ [9, 4, 10, 69, 70, 71, 72, 73, 74, 75, 76, 77, 78, 79, 80, 83, 84, 85, 86, 87, 88, 89] (by decide +kernel) (by decide +kernel)
set_option maxRecDepth 20000 in
theorem gX8_ask_X8_isPlayer : GoodIn wsX8_ask (wsV RX8 190 RX8 yX8_isPlayer wsX8_isPlayer) := goodIn_app (goodIn_of _ (by decide +kernel)) ggX8_ask_X8_isPlayer
set_option maxRecDepth 20000 in
theorem ggX8_ask_X1_sizeOf : GoodIn wsX8_ask wsX1_sizeOf := goodIn_r _ [15, 16, 17, 18, 19, 14, 20, 21, 22, 23, 24, 25, 26, 27, 28, 29, 30, 31, 32, 33, 34, 35, 36, 37, 38, 39, 40, 41, 42, 43, 44, 45, 46, 47, 48, 49, 50, 51, 52, 53, 54, 55, 56, 57, 58, 83, 84, 85, 86, 87, 88, 89, 81, 82] (by decide +kernel) (by decide +kernel)
set_option maxRecDepth 20000 in
theorem gX8_ask_X1_sizeOf : GoodIn wsX8_ask (wsV RX8 290 RX1 yX1_sizeOf wsX1_sizeOf) := goodIn_app (goodIn_of _ (by decide +kernel)) ggX8_ask_X1_sizeOf
set_option maxRecDepth 20000 in
theorem ggX8_ask_X1_markOf : GoodIn wsX8_ask wsX1_markOf := goodIn_r _ [62, 16, 63, 8, 64, 38, 39, 40, 14, 41, 17, 18, 19, 20, 21, 22, 42, 43, 44, 45, 46, 47, 48, 49, 50, 65, 66, 67, 68, 51, 52, 53, 54, 55, 56, 57, 58, 27, 28, 29, 30, 31, 32, 33, 34, 35, 36, 37, 83, 84, 85, 86, 87, 88, 89, 81, 82] (by decide +kernel) (by decide +kernel)
set_option maxRecDepth 20000 in
theorem gX8_ask_X1_markOf : GoodIn wsX8_ask (wsV RX8 293 RX1 yX1_markOf wsX1_markOf) := goodIn_app (goodIn_of _ (by decide +kernel)) ggX8_ask_X1_markOf
theorem dX8_ask_0 : decode cX8_ask 0 = .ok (.aload_n 0, 1) := by decide +kernel
theorem dX8_ask_1 : decode cX8_ask 1 = .ok (.iload_n 1, 1) := by decide +kernel
theorem dX8_ask_2 : decode cX8_ask 2 = .ok (.invokevirtual 190, 3) := by decide +kernel
theorem dX8_ask_5 : decode cX8_ask 5 = .ok (.ifCond .eq 12, 3) := by decide +kernel
theorem dX8_ask_8 : decode cX8_ask 8 = .ok (.iload_n 2, 1) := by decide +kernel
theorem dX8_ask_9 : decode cX8_ask 9 = .ok (.ifCond .lt 8, 3) := by decide +kernel
theorem dX8_ask_12 : decode cX8_ask 12 = .ok (.iload_n 2, 1) := by decide +kernel
theorem dX8_ask_13 : decode cX8_ask 13 = .ok (.iconst 1, 1) := by decide +kernel
theorem dX8_ask_14 : decode cX8_ask 14 = .ok (.if_icmp .le 6, 3) := by decide +kernel
theorem dX8_ask_17 : decode cX8_ask 17 = .ok (.ldc 82, 2) := by decide +kernel
theorem dX8_ask_19 : decode cX8_ask 19 = .ok (.ireturn, 1) := by decide +kernel
theorem dX8_ask_20 : decode cX8_ask 20 = .ok (.aload_n 0, 1) := by decide +kernel
theorem dX8_ask_21 : decode cX8_ask 21 = .ok (.getfield 59, 3) := by decide +kernel
theorem dX8_ask_24 : decode cX8_ask 24 = .ok (.iconst 0, 1) := by decide +kernel
theorem dX8_ask_25 : decode cX8_ask 25 = .ok (.putfield 289, 3) := by decide +kernel
theorem dX8_ask_28 : decode cX8_ask 28 = .ok (.iload_n 2, 1) := by decide +kernel
theorem dX8_ask_29 : decode cX8_ask 29 = .ok (.ifCond .ne 18, 3) := by decide +kernel
theorem dX8_ask_32 : decode cX8_ask 32 = .ok (.aload_n 0, 1) := by decide +kernel
theorem dX8_ask_33 : decode cX8_ask 33 = .ok (.getfield 59, 3) := by decide +kernel
theorem dX8_ask_36 : decode cX8_ask 36 = .ok (.aload_n 0, 1) := by decide +kernel
theorem dX8_ask_37 : decode cX8_ask 37 = .ok (.getfield 35, 3) := by decide +kernel
theorem dX8_ask_40 : decode cX8_ask 40 = .ok (.iload_n 1, 1) := by decide +kernel
theorem dX8_ask_41 : decode cX8_ask 41 = .ok (.invokevirtual 290, 3) := by decide +kernel
theorem dX8_ask_44 : decode cX8_ask 44 = .ok (.goto 15, 3) := by decide +kernel
theorem dX8_ask_47 : decode cX8_ask 47 = .ok (.aload_n 0, 1) := by decide +kernel
theorem dX8_ask_48 : decode cX8_ask 48 = .ok (.getfield 59, 3) := by decide +kernel
theorem dX8_ask_51 : decode cX8_ask 51 = .ok (.aload_n 0, 1) := by decide +kernel
theorem dX8_ask_52 : decode cX8_ask 52 = .ok (.getfield 35, 3) := by decide +kernel
theorem dX8_ask_55 : decode cX8_ask 55 = .ok (.iload_n 1, 1) := by decide +kernel
theorem dX8_ask_56 : decode cX8_ask 56 = .ok (.invokevirtual 293, 3) := by decide +kernel
theorem dX8_ask_59 : decode cX8_ask 59 = .ok (.ireturn, 1) := by decide +kernel
theorem dX8_trace_0 : decode cX8_trace 0 = .ok (.iload_n 1, 1) := by decide +kernel
theorem dX8_trace_1 : decode cX8_trace 1 = .ok (.ifCond .lt 26, 3) := by decide +kernel
theorem dX8_trace_4 : decode cX8_trace 4 = .ok (.iload_n 1, 1) := by decide +kernel
theorem dX8_trace_5 : decode cX8_trace 5 = .ok (.aload_n 0, 1) := by decide +kernel
theorem dX8_trace_6 : decode cX8_trace 6 = .ok (.getfield 59, 3) := by decide +kernel
theorem dX8_trace_9 : decode cX8_trace 9 = .ok (.getfield 289, 3) := by decide +kernel
theorem dX8_trace_12 : decode cX8_trace 12 = .ok (.if_icmp .ge 15, 3) := by decide +kernel
theorem dX8_trace_15 : decode cX8_trace 15 = .ok (.aload_n 0, 1) := by decide +kernel
theorem dX8_trace_16 : decode cX8_trace 16 = .ok (.getfield 59, 3) := by decide +kernel
theorem dX8_trace_19 : decode cX8_trace 19 = .ok (.getfield 296, 3) := by decide +kernel
theorem dX8_trace_22 : decode cX8_trace 22 = .ok (.iload_n 1, 1) := by decide +kernel
theorem dX8_trace_23 : decode cX8_trace 23 = .ok (.iaload, 1) := by decide +kernel
theorem dX8_trace_24 : decode cX8_trace 24 = .ok (.goto 5, 3) := by decide +kernel
theorem dX8_trace_27 : decode cX8_trace 27 = .ok (.ldc 244, 2) := by decide +kernel
theorem dX8_trace_29 : decode cX8_trace 29 = .ok (.ireturn, 1) := by decide +kernel
set_option maxRecDepth 20000 in
theorem ggX8_count_X5_present : GoodIn wsX8_count wsX5_present := goodIn_r _ [15, 16, 17, 18, 14, 19, 20, 56, 57, 58] (by decide +kernel) (by decide +kernel)
set_option maxRecDepth 20000 in
theorem gX8_count_X5_present : GoodIn wsX8_count (wsV RX8 299 RX5 yX5_present wsX5_present) := goodIn_app (goodIn_of _ (by decide +kernel)) ggX8_count_X5_present
set_option maxRecDepth 20000 in
theorem ggX8_count_X3_leaders : GoodIn wsX8_count wsX3_leaders := goodIn_r _ [25, 26, 27, 28, 29, 24, 30, 31, 44, 45, 46, 47, 48, 49, 50] (by decide +kernel) (by decide +kernel)
set_option maxRecDepth 20000 in
theorem gX8_count_X3_leaders : GoodIn wsX8_count (wsV RX8 183 RX3 yX3_leaders wsX3_leaders) := goodIn_app (goodIn_of _ (by decide +kernel)) ggX8_count_X3_leaders
theorem dX8_count_0 : decode cX8_count 0 = .ok (.iload_n 1, 1) := by decide +kernel
theorem dX8_count_1 : decode cX8_count 1 = .ok (.tableswitch 99 0 6 #[43, 51, 59, 67, 75, 83, 91], 43) := by decide +kernel
theorem dX8_count_44 : decode cX8_count 44 = .ok (.aload_n 0, 1) := by decide +kernel
theorem dX8_count_45 : decode cX8_count 45 = .ok (.getfield 10, 3) := by decide +kernel
theorem dX8_count_48 : decode cX8_count 48 = .ok (.invokevirtual 299, 3) := by decide +kernel
theorem dX8_count_51 : decode cX8_count 51 = .ok (.ireturn, 1) := by decide +kernel
theorem dX8_count_52 : decode cX8_count 52 = .ok (.aload_n 0, 1) := by decide +kernel
theorem dX8_count_53 : decode cX8_count 53 = .ok (.getfield 35, 3) := by decide +kernel
theorem dX8_count_56 : decode cX8_count 56 = .ok (.getfield 154, 3) := by decide +kernel
theorem dX8_count_59 : decode cX8_count 59 = .ok (.ireturn, 1) := by decide +kernel
theorem dX8_count_60 : decode cX8_count 60 = .ok (.aload_n 0, 1) := by decide +kernel
theorem dX8_count_61 : decode cX8_count 61 = .ok (.getfield 35, 3) := by decide +kernel
theorem dX8_count_64 : decode cX8_count 64 = .ok (.invokevirtual 183, 3) := by decide +kernel
theorem dX8_count_67 : decode cX8_count 67 = .ok (.ireturn, 1) := by decide +kernel
theorem dX8_count_68 : decode cX8_count 68 = .ok (.aload_n 0, 1) := by decide +kernel
theorem dX8_count_69 : decode cX8_count 69 = .ok (.getfield 35, 3) := by decide +kernel
theorem dX8_count_72 : decode cX8_count 72 = .ok (.getfield 226, 3) := by decide +kernel
theorem dX8_count_75 : decode cX8_count 75 = .ok (.ireturn, 1) := by decide +kernel
theorem dX8_count_76 : decode cX8_count 76 = .ok (.aload_n 0, 1) := by decide +kernel
theorem dX8_count_77 : decode cX8_count 77 = .ok (.getfield 35, 3) := by decide +kernel
theorem dX8_count_80 : decode cX8_count 80 = .ok (.getfield 171, 3) := by decide +kernel
theorem dX8_count_83 : decode cX8_count 83 = .ok (.ireturn, 1) := by decide +kernel
theorem dX8_count_84 : decode cX8_count 84 = .ok (.aload_n 0, 1) := by decide +kernel
theorem dX8_count_85 : decode cX8_count 85 = .ok (.getfield 45, 3) := by decide +kernel
theorem dX8_count_88 : decode cX8_count 88 = .ok (.getfield 208, 3) := by decide +kernel
theorem dX8_count_91 : decode cX8_count 91 = .ok (.ireturn, 1) := by decide +kernel
theorem dX8_count_92 : decode cX8_count 92 = .ok (.aload_n 0, 1) := by decide +kernel
theorem dX8_count_93 : decode cX8_count 93 = .ok (.getfield 19, 3) := by decide +kernel
theorem dX8_count_96 : decode cX8_count 96 = .ok (.getfield 136, 3) := by decide +kernel
theorem dX8_count_99 : decode cX8_count 99 = .ok (.ireturn, 1) := by decide +kernel
theorem dX8_count_100 : decode cX8_count 100 = .ok (.ldc 82, 2) := by decide +kernel
theorem dX8_count_102 : decode cX8_count 102 = .ok (.ireturn, 1) := by decide +kernel
theorem dX8_status_0 : decode cX8_status 0 = .ok (.aload_n 0, 1) := by decide +kernel
theorem dX8_status_1 : decode cX8_status 1 = .ok (.getfield 75, 3) := by decide +kernel
theorem dX8_status_4 : decode cX8_status 4 = .ok (.ireturn, 1) := by decide +kernel
theorem dX8_nextOf_0 : decode cX8_nextOf 0 = .ok (.iload_n 0, 1) := by decide +kernel
theorem dX8_nextOf_1 : decode cX8_nextOf 1 = .ok (.iconst 2, 1) := by decide +kernel
theorem dX8_nextOf_2 : decode cX8_nextOf 2 = .ok (.if_icmp .ne 7, 3) := by decide +kernel
theorem dX8_nextOf_5 : decode cX8_nextOf 5 = .ok (.iconst 0, 1) := by decide +kernel
theorem dX8_nextOf_6 : decode cX8_nextOf 6 = .ok (.goto 6, 3) := by decide +kernel
theorem dX8_nextOf_9 : decode cX8_nextOf 9 = .ok (.iload_n 0, 1) := by decide +kernel
theorem dX8_nextOf_10 : decode cX8_nextOf 10 = .ok (.iconst 1, 1) := by decide +kernel
theorem dX8_nextOf_11 : decode cX8_nextOf 11 = .ok (.iadd, 1) := by decide +kernel
theorem dX8_nextOf_12 : decode cX8_nextOf 12 = .ok (.ireturn, 1) := by decide +kernel
set_option maxRecDepth 20000 in
theorem ggX8_isOne_X8_isBoyish : GoodIn wsX8_isOne wsX8_isBoyish := goodIn_r _ [4] (by decide +kernel) (by decide +kernel)
set_option maxRecDepth 20000 in
theorem gX8_isOne_X8_isBoyish : GoodIn wsX8_isOne (va_wsS RX8 302 yX8_isBoyish wsX8_isBoyish) := goodIn_app (goodIn_of _ (by decide +kernel)) ggX8_isOne_X8_isBoyish
theorem dX8_isOne_0 : decode cX8_isOne 0 = .ok (.iload_n 1, 1) := by decide +kernel
theorem dX8_isOne_1 : decode cX8_isOne 1 = .ok (.iconst 1, 1) := by decide +kernel
theorem dX8_isOne_2 : decode cX8_isOne 2 = .ok (.if_icmp .ne 8, 3) := by decide +kernel
theorem dX8_isOne_5 : decode cX8_isOne 5 = .ok (.iload_n 0, 1) := by decide +kernel
theorem dX8_isOne_6 : decode cX8_isOne 6 = .ok (.invokestatic 302, 3) := by decide +kernel
theorem dX8_isOne_9 : decode cX8_isOne 9 = .ok (.ireturn, 1) := by decide +kernel
theorem dX8_isOne_10 : decode cX8_isOne 10 = .ok (.iload_n 1, 1) := by decide +kernel
theorem dX8_isOne_11 : decode cX8_isOne 11 = .ok (.iconst 4, 1) := by decide +kernel
theorem dX8_isOne_12 : decode cX8_isOne 12 = .ok (.if_icmp .ne 19, 3) := by decide +kernel
theorem dX8_isOne_15 : decode cX8_isOne 15 = .ok (.iload_n 0, 1) := by decide +kernel
theorem dX8_isOne_16 : decode cX8_isOne 16 = .ok (.iconst 4, 1) := by decide +kernel
theorem dX8_isOne_17 : decode cX8_isOne 17 = .ok (.if_icmp .eq 8, 3) := by decide +kernel
theorem dX8_isOne_20 : decode cX8_isOne 20 = .ok (.iload_n 0, 1) := by decide +kernel
theorem dX8_isOne_21 : decode cX8_isOne 21 = .ok (.iconst 5, 1) := by decide +kernel
theorem dX8_isOne_22 : decode cX8_isOne 22 = .ok (.if_icmp .ne 7, 3) := by decide +kernel
theorem dX8_isOne_25 : decode cX8_isOne 25 = .ok (.iconst 1, 1) := by decide +kernel
theorem dX8_isOne_26 : decode cX8_isOne 26 = .ok (.goto 4, 3) := by decide +kernel
theorem dX8_isOne_29 : decode cX8_isOne 29 = .ok (.iconst 0, 1) := by decide +kernel
theorem dX8_isOne_30 : decode cX8_isOne 30 = .ok (.ireturn, 1) := by decide +kernel
theorem dX8_isOne_31 : decode cX8_isOne 31 = .ok (.iload_n 1, 1) := by decide +kernel
theorem dX8_isOne_32 : decode cX8_isOne 32 = .ok (.ifCond .eq 8, 3) := by decide +kernel
theorem dX8_isOne_35 : decode cX8_isOne 35 = .ok (.iload_n 1, 1) := by decide +kernel
theorem dX8_isOne_36 : decode cX8_isOne 36 = .ok (.iload_n 0, 1) := by decide +kernel
theorem dX8_isOne_37 : decode cX8_isOne 37 = .ok (.if_icmp .ne 7, 3) := by decide +kernel
theorem dX8_isOne_40 : decode cX8_isOne 40 = .ok (.iconst 1, 1) := by decide +kernel
theorem dX8_isOne_41 : decode cX8_isOne 41 = .ok (.goto 4, 3) := by decide +kernel
theorem dX8_isOne_44 : decode cX8_isOne 44 = .ok (.iconst 0, 1) := by decide +kernel
theorem dX8_isOne_45 : decode cX8_isOne 45 = .ok (.ireturn, 1) := by decide +kernel
theorem dX8_isBoyish_0 : decode cX8_isBoyish 0 = .ok (.iload_n 0, 1) := by decide +kernel
theorem dX8_isBoyish_1 : decode cX8_isBoyish 1 = .ok (.iconst 1, 1) := by decide +kernel
theorem dX8_isBoyish_2 : decode cX8_isBoyish 2 = .ok (.if_icmp .eq 13, 3) := by decide +kernel
theorem dX8_isBoyish_5 : decode cX8_isBoyish 5 = .ok (.iload_n 0, 1) := by decide +kernel
theorem dX8_isBoyish_6 : decode cX8_isBoyish 6 = .ok (.iconst 2, 1) := by decide +kernel
theorem dX8_isBoyish_7 : decode cX8_isBoyish 7 = .ok (.if_icmp .eq 8, 3) := by decide +kernel
theorem dX8_isBoyish_10 : decode cX8_isBoyish 10 = .ok (.iload_n 0, 1) := by decide +kernel
theorem dX8_isBoyish_11 : decode cX8_isBoyish 11 = .ok (.iconst 3, 1) := by decide +kernel
theorem dX8_isBoyish_12 : decode cX8_isBoyish 12 = .ok (.if_icmp .ne 7, 3) := by decide +kernel
theorem dX8_isBoyish_15 : decode cX8_isBoyish 15 = .ok (.iconst 1, 1) := by decide +kernel
theorem dX8_isBoyish_16 : decode cX8_isBoyish 16 = .ok (.goto 4, 3) := by decide +kernel
theorem dX8_isBoyish_19 : decode cX8_isBoyish 19 = .ok (.iconst 0, 1) := by decide +kernel
theorem dX8_isBoyish_20 : decode cX8_isBoyish 20 = .ok (.ireturn, 1) := by decide +kernel
