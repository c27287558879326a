theorem dX4_init_0 : decode cX4_init 0 = .ok (.aload_n 0, 1) := by decide +kernel
theorem dX4_init_1 : decode cX4_init 1 = .ok (.invokespecial 3, 3) := by decide +kernel
theorem dX4_init_4 : decode cX4_init 4 = .ok (.aload_n 0, 1) := by decide +kernel
theorem dX4_init_5 : decode cX4_init 5 = .ok (.aload_n 1, 1) := by decide +kernel
theorem dX4_init_6 : decode cX4_init 6 = .ok (.putfield 9, 3) := by decide +kernel
theorem dX4_init_9 : decode cX4_init 9 = .ok (.aload_n 0, 1) := by decide +kernel
theorem dX4_init_10 : decode cX4_init 10 = .ok (.iconst 0, 1) := by decide +kernel
theorem dX4_init_11 : decode cX4_init 11 = .ok (.putfield 15, 3) := by decide +kernel
theorem dX4_init_14 : decode cX4_init 14 = .ok (.aload_n 0, 1) := by decide +kernel
theorem dX4_init_15 : decode cX4_init 15 = .ok (.iconst 0, 1) := by decide +kernel
theorem dX4_init_16 : decode cX4_init 16 = .ok (.putfield 19, 3) := by decide +kernel
theorem dX4_init_19 : decode cX4_init 19 = .ok (.aload_n 0, 1) := by decide +kernel
theorem dX4_init_20 : decode cX4_init 20 = .ok (.iconst 0, 1) := by decide +kernel
theorem dX4_init_21 : decode cX4_init 21 = .ok (.putfield 22, 3) := by decide +kernel
theorem dX4_init_24 : decode cX4_init 24 = .ok (.aload_n 0, 1) := by decide +kernel
theorem dX4_init_25 : decode cX4_init 25 = .ok (.iconst 0, 1) := by decide +kernel
theorem dX4_init_26 : decode cX4_init 26 = .ok (.putfield 25, 3) := by decide +kernel
theorem dX4_init_29 : decode cX4_init 29 = .ok (.return_, 1) := by decide +kernel
set_option maxRecDepth 20000 in
theorem ggX4_read_X3_clear : GoodIn wsX4_read wsX3_clear := goodIn_r _ [7, 8, 9, 10, 121, 122, 123, 124, 125, 126, 127] (by decide +kernel) (by decide +kernel)
set_option maxRecDepth 20000 in
theorem gX4_read_X3_clear : GoodIn wsX4_read (wsV RX4 28 RX3 yX3_clear wsX3_clear) := goodIn_app (goodIn_of _ (by decide +kernel)) ggX4_read_X3_clear
set_option maxRecDepth 20000 in
theorem ggX4_read_X4_step : GoodIn wsX4_read wsX4_step := goodIn_r _ [15, 1, 16, 17, 18, 2, 19, 20, 21, 22, 23, 24, 25, 26, 27, 14, 28, 29, 30, 31, 32, 33, 34, 35, 36, 37, 38, 39, 40, 41, 42, 43, 116, 117, 118, 119, 120, 128, 129] (by decide +kernel) (by decide +kernel)
set_option maxRecDepth 20000 in
theorem gX4_read_X4_step : GoodIn wsX4_read (wsV RX4 33 RX4 yX4_step wsX4_step) := goodIn_app (goodIn_of _ (by decide +kernel)) ggX4_read_X4_step
set_option maxRecDepth 20000 in
theorem ggX4_read_X4_readPlayer : GoodIn wsX4_read wsX4_readPlayer := goodIn_r _ [47, 48, 2, 43, 49, 50, 51, 14, 52, 1, 16, 17, 53, 54, 55, 56, 57, 58, 59, 60, 61, 62, 63, 64, 19, 20, 21, 22, 23, 24, 25, 65, 66, 67, 68, 69, 70, 71, 72, 73, 74, 75, 76, 77, 78, 79, 80, 81, 82, 83, 84, 85, 86, 87, 88, 89, 90, 91, 92, 93, 94, 95, 96, 97, 98, 99, 100, 101, 11, 12, 13, 15, 18, 26, 27, 28, 29, 30, 31, 32, 33, 34, 35, 36, 37, 38, 39, 40, 41, 42, 102, 103, 104, 105, 106, 107, 108, 109, 110, 111, 6, 112, 8, 113, 114, 115, 121, 122, 123, 124, 125, 126, 127, 116, 117, 118, 119, 120, 128, 129] (by decide +kernel) (by decide +kernel)
set_option maxRecDepth 20000 in
theorem gX4_read_X4_readPlayer : GoodIn wsX4_read (wsV RX4 36 RX4 yX4_readPlayer wsX4_readPlayer) := goodIn_app (goodIn_of _ (by decide +kernel)) ggX4_read_X4_readPlayer
theorem dX4_read_0 : decode cX4_read 0 = .ok (.aload_n 0, 1) := by decide +kernel
theorem dX4_read_1 : decode cX4_read 1 = .ok (.iconst 0, 1) := by decide +kernel
theorem dX4_read_2 : decode cX4_read 2 = .ok (.putfield 22, 3) := by decide +kernel
theorem dX4_read_5 : decode cX4_read 5 = .ok (.aload_n 1, 1) := by decide +kernel
theorem dX4_read_6 : decode cX4_read 6 = .ok (.invokevirtual 28, 3) := by decide +kernel
theorem dX4_read_9 : decode cX4_read 9 = .ok (.aload_n 0, 1) := by decide +kernel
theorem dX4_read_10 : decode cX4_read 10 = .ok (.invokevirtual 33, 3) := by decide +kernel
theorem dX4_read_13 : decode cX4_read 13 = .ok (.aload_n 0, 1) := by decide +kernel
theorem dX4_read_14 : decode cX4_read 14 = .ok (.aload_n 1, 1) := by decide +kernel
theorem dX4_read_15 : decode cX4_read 15 = .ok (.invokevirtual 36, 3) := by decide +kernel
theorem dX4_read_18 : decode cX4_read 18 = .ok (.istore_n 2, 1) := by decide +kernel
theorem dX4_read_19 : decode cX4_read 19 = .ok (.iconst 0, 1) := by decide +kernel
theorem dX4_read_20 : decode cX4_read 20 = .ok (.istore_n 3, 1) := by decide +kernel
theorem dX4_read_21 : decode cX4_read 21 = .ok (.iload_n 3, 1) := by decide +kernel
theorem dX4_read_22 : decode cX4_read 22 = .ok (.bipush 8, 2) := by decide +kernel
theorem dX4_read_24 : decode cX4_read 24 = .ok (.if_icmp .ge 26, 3) := by decide +kernel
theorem dX4_read_27 : decode cX4_read 27 = .ok (.iload_n 2, 1) := by decide +kernel
theorem dX4_read_28 : decode cX4_read 28 = .ok (.ifCond .ne 22, 3) := by decide +kernel
theorem dX4_read_31 : decode cX4_read 31 = .ok (.aload_n 0, 1) := by decide +kernel
theorem dX4_read_32 : decode cX4_read 32 = .ok (.getfield 15, 3) := by decide +kernel
theorem dX4_read_35 : decode cX4_read 35 = .ok (.ifCond .eq 15, 3) := by decide +kernel
theorem dX4_read_38 : decode cX4_read 38 = .ok (.aload_n 0, 1) := by decide +kernel
theorem dX4_read_39 : decode cX4_read 39 = .ok (.aload_n 1, 1) := by decide +kernel
theorem dX4_read_40 : decode cX4_read 40 = .ok (.invokevirtual 36, 3) := by decide +kernel
theorem dX4_read_43 : decode cX4_read 43 = .ok (.istore_n 2, 1) := by decide +kernel
theorem dX4_read_44 : decode cX4_read 44 = .ok (.iinc 3 1, 3) := by decide +kernel
theorem dX4_read_47 : decode cX4_read 47 = .ok (.goto (-26), 3) := by decide +kernel
theorem dX4_read_50 : decode cX4_read 50 = .ok (.iload_n 2, 1) := by decide +kernel
theorem dX4_read_51 : decode cX4_read 51 = .ok (.ireturn, 1) := by decide +kernel
set_option maxRecDepth 20000 in
theorem ggX4_readPlayer_X4_isWord : GoodIn wsX4_readPlayer wsX4_isWord := goodIn_r _ [8, 2, 9, 10, 11, 12, 13, 14, 15, 16, 17, 18, 19, 20, 21, 22, 23, 24, 25, 26, 27, 28, 29, 30, 31, 32, 33, 34, 35, 36, 37, 38, 39, 40, 41, 42, 43, 44, 45, 46, 47, 48, 49, 50, 51, 52, 53, 54, 55, 56, 57, 58, 59, 60, 61, 62, 63, 64, 65, 66, 67, 113, 114, 115, 116, 117, 118, 119] (by decide +kernel) (by decide +kernel)
set_option maxRecDepth 20000 in
theorem gX4_readPlayer_X4_isWord : GoodIn wsX4_readPlayer (wsV RX4 42 RX4 yX4_isWord wsX4_isWord) := goodIn_app (goodIn_of _ (by decide +kernel)) ggX4_readPlayer_X4_isWord
set_option maxRecDepth 20000 in
theorem ggX4_readPlayer_X4_step : GoodIn wsX4_readPlayer wsX4_step := goodIn_r _ [71, 9, 10, 11, 72, 2, 24, 25, 26, 27, 28, 29, 30, 73, 74, 7, 75, 76, 77, 78, 79, 80, 81, 82, 83, 84, 85, 86, 87, 88, 89, 3, 113, 114, 115, 116, 117, 118, 119] (by decide +kernel) (by decide +kernel)
set_option maxRecDepth 20000 in
theorem gX4_readPlayer_X4_step : GoodIn wsX4_readPlayer (wsV RX4 33 RX4 yX4_step wsX4_step) := goodIn_app (goodIn_of _ (by decide +kernel)) ggX4_readPlayer_X4_step
set_option maxRecDepth 20000 in
theorem ggX4_readPlayer_X4_sortRead : GoodIn wsX4_readPlayer wsX4_sortRead := goodIn_r _ [93, 4, 5, 6, 7, 8, 2, 9, 10, 11, 12, 13, 14, 15, 16, 17, 18, 19, 20, 21, 22, 23, 24, 25, 26, 27, 28, 29, 30, 31, 32, 33, 34, 35, 36, 37, 38, 39, 40, 41, 42, 43, 44, 45, 46, 47, 48, 49, 50, 51, 52, 53, 54, 55, 56, 57, 58, 59, 60, 61, 62, 63, 64, 65, 66, 67, 113, 114, 115, 116, 117, 118, 119] (by decide +kernel) (by decide +kernel)
set_option maxRecDepth 20000 in
theorem gX4_readPlayer_X4_sortRead : GoodIn wsX4_readPlayer (wsV RX4 49 RX4 yX4_sortRead wsX4_sortRead) := goodIn_app (goodIn_of _ (by decide +kernel)) ggX4_readPlayer_X4_sortRead
set_option maxRecDepth 20000 in
theorem ggX4_readPlayer_X8_isHand : GoodIn wsX4_readPlayer wsX8_isHand := goodIn_r _ [96] (by decide +kernel) (by decide +kernel)
set_option maxRecDepth 20000 in
theorem gX4_readPlayer_X8_isHand_n53 : GoodIn wsX4_readPlayer (wsX8_isHand) := ggX4_readPlayer_X8_isHand
set_option maxRecDepth 20000 in
theorem ggX4_readPlayer_X3_enter : GoodIn wsX4_readPlayer wsX3_enter := goodIn_r _ [101, 102, 103, 104, 105, 106, 107, 108, 109, 110, 111, 112] (by decide +kernel) (by decide +kernel)
set_option maxRecDepth 20000 in
theorem gX4_readPlayer_X3_enter : GoodIn wsX4_readPlayer (wsV RX4 57 RX3 yX3_enter wsX3_enter) := goodIn_app (goodIn_of _ (by decide +kernel)) ggX4_readPlayer_X3_enter
theorem dX4_readPlayer_0 : decode cX4_readPlayer 0 = .ok (.aload_n 0, 1) := by decide +kernel
theorem dX4_readPlayer_1 : decode cX4_readPlayer 1 = .ok (.ldc 40, 2) := by decide +kernel
theorem dX4_readPlayer_3 : decode cX4_readPlayer 3 = .ok (.invokevirtual 42, 3) := by decide +kernel
theorem dX4_readPlayer_6 : decode cX4_readPlayer 6 = .ok (.ifCond .ne 5, 3) := by decide +kernel
theorem dX4_readPlayer_9 : decode cX4_readPlayer 9 = .ok (.iconst 1, 1) := by decide +kernel
theorem dX4_readPlayer_10 : decode cX4_readPlayer 10 = .ok (.ireturn, 1) := by decide +kernel
theorem dX4_readPlayer_11 : decode cX4_readPlayer 11 = .ok (.aload_n 1, 1) := by decide +kernel
theorem dX4_readPlayer_12 : decode cX4_readPlayer 12 = .ok (.getfield 46, 3) := by decide +kernel
theorem dX4_readPlayer_15 : decode cX4_readPlayer 15 = .ok (.bipush 8, 2) := by decide +kernel
theorem dX4_readPlayer_17 : decode cX4_readPlayer 17 = .ok (.if_icmp .ne 5, 3) := by decide +kernel
theorem dX4_readPlayer_20 : decode cX4_readPlayer 20 = .ok (.iconst 3, 1) := by decide +kernel
theorem dX4_readPlayer_21 : decode cX4_readPlayer 21 = .ok (.ireturn, 1) := by decide +kernel
theorem dX4_readPlayer_22 : decode cX4_readPlayer 22 = .ok (.aload_n 0, 1) := by decide +kernel
theorem dX4_readPlayer_23 : decode cX4_readPlayer 23 = .ok (.invokevirtual 33, 3) := by decide +kernel
theorem dX4_readPlayer_26 : decode cX4_readPlayer 26 = .ok (.aload_n 0, 1) := by decide +kernel
theorem dX4_readPlayer_27 : decode cX4_readPlayer 27 = .ok (.invokevirtual 49, 3) := by decide +kernel
theorem dX4_readPlayer_30 : decode cX4_readPlayer 30 = .ok (.istore_n 2, 1) := by decide +kernel
theorem dX4_readPlayer_31 : decode cX4_readPlayer 31 = .ok (.iload_n 2, 1) := by decide +kernel
theorem dX4_readPlayer_32 : decode cX4_readPlayer 32 = .ok (.ifCond .ne 5, 3) := by decide +kernel
theorem dX4_readPlayer_35 : decode cX4_readPlayer 35 = .ok (.iconst 1, 1) := by decide +kernel
theorem dX4_readPlayer_36 : decode cX4_readPlayer 36 = .ok (.ireturn, 1) := by decide +kernel
theorem dX4_readPlayer_37 : decode cX4_readPlayer 37 = .ok (.aload_n 0, 1) := by decide +kernel
theorem dX4_readPlayer_38 : decode cX4_readPlayer 38 = .ok (.invokevirtual 33, 3) := by decide +kernel
theorem dX4_readPlayer_41 : decode cX4_readPlayer 41 = .ok (.aload_n 0, 1) := by decide +kernel
theorem dX4_readPlayer_42 : decode cX4_readPlayer 42 = .ok (.getfield 15, 3) := by decide +kernel
theorem dX4_readPlayer_45 : decode cX4_readPlayer 45 = .ok (.iconst 2, 1) := by decide +kernel
theorem dX4_readPlayer_46 : decode cX4_readPlayer 46 = .ok (.if_icmp .eq 5, 3) := by decide +kernel
theorem dX4_readPlayer_49 : decode cX4_readPlayer 49 = .ok (.iconst 1, 1) := by decide +kernel
theorem dX4_readPlayer_50 : decode cX4_readPlayer 50 = .ok (.ireturn, 1) := by decide +kernel
theorem dX4_readPlayer_51 : decode cX4_readPlayer 51 = .ok (.aload_n 0, 1) := by decide +kernel
theorem dX4_readPlayer_52 : decode cX4_readPlayer 52 = .ok (.getfield 25, 3) := by decide +kernel
theorem dX4_readPlayer_55 : decode cX4_readPlayer 55 = .ok (.invokestatic 53, 3) := by decide +kernel
theorem dX4_readPlayer_58 : decode cX4_readPlayer 58 = .ok (.ifCond .ne 5, 3) := by decide +kernel
theorem dX4_readPlayer_61 : decode cX4_readPlayer 61 = .ok (.iconst 2, 1) := by decide +kernel
theorem dX4_readPlayer_62 : decode cX4_readPlayer 62 = .ok (.ireturn, 1) := by decide +kernel
theorem dX4_readPlayer_63 : decode cX4_readPlayer 63 = .ok (.aload_n 0, 1) := by decide +kernel
theorem dX4_readPlayer_64 : decode cX4_readPlayer 64 = .ok (.getfield 25, 3) := by decide +kernel
theorem dX4_readPlayer_67 : decode cX4_readPlayer 67 = .ok (.istore_n 3, 1) := by decide +kernel
theorem dX4_readPlayer_68 : decode cX4_readPlayer 68 = .ok (.aload_n 0, 1) := by decide +kernel
theorem dX4_readPlayer_69 : decode cX4_readPlayer 69 = .ok (.invokevirtual 33, 3) := by decide +kernel
theorem dX4_readPlayer_72 : decode cX4_readPlayer 72 = .ok (.aload_n 0, 1) := by decide +kernel
theorem dX4_readPlayer_73 : decode cX4_readPlayer 73 = .ok (.getfield 15, 3) := by decide +kernel
theorem dX4_readPlayer_76 : decode cX4_readPlayer 76 = .ok (.iconst 3, 1) := by decide +kernel
theorem dX4_readPlayer_77 : decode cX4_readPlayer 77 = .ok (.if_icmp .eq 5, 3) := by decide +kernel
theorem dX4_readPlayer_80 : decode cX4_readPlayer 80 = .ok (.iconst 1, 1) := by decide +kernel
theorem dX4_readPlayer_81 : decode cX4_readPlayer 81 = .ok (.ireturn, 1) := by decide +kernel
theorem dX4_readPlayer_82 : decode cX4_readPlayer 82 = .ok (.aload_n 1, 1) := by decide +kernel
theorem dX4_readPlayer_83 : decode cX4_readPlayer 83 = .ok (.iload_n 2, 1) := by decide +kernel
theorem dX4_readPlayer_84 : decode cX4_readPlayer 84 = .ok (.iload_n 3, 1) := by decide +kernel
theorem dX4_readPlayer_85 : decode cX4_readPlayer 85 = .ok (.invokevirtual 57, 3) := by decide +kernel
theorem dX4_readPlayer_88 : decode cX4_readPlayer 88 = .ok (.aload_n 0, 1) := by decide +kernel
theorem dX4_readPlayer_89 : decode cX4_readPlayer 89 = .ok (.invokevirtual 33, 3) := by decide +kernel
theorem dX4_readPlayer_92 : decode cX4_readPlayer 92 = .ok (.iconst 0, 1) := by decide +kernel
theorem dX4_readPlayer_93 : decode cX4_readPlayer 93 = .ok (.ireturn, 1) := by decide +kernel
set_option maxRecDepth 20000 in
theorem ggX4_sortRead_X4_isWord : GoodIn wsX4_sortRead wsX4_isWord := goodIn_r _ [5, 6, 7, 8, 9, 10, 11, 12, 13, 14, 15, 16, 17, 18, 19, 20, 21, 22, 23, 24, 25, 26, 27, 28, 29, 30, 31, 32, 33, 34, 35, 36, 37, 38, 39, 40, 41, 42, 43, 44, 45, 46, 47, 48, 49, 50, 51, 52, 53, 54, 55, 56, 57, 58, 59, 60, 61, 62, 63, 64, 65, 66, 67, 68, 69, 70, 71, 72] (by decide +kernel) (by decide +kernel)
set_option maxRecDepth 20000 in
theorem gX4_sortRead_X4_isWord : GoodIn wsX4_sortRead (wsV RX4 42 RX4 yX4_isWord wsX4_isWord) := goodIn_app (goodIn_of _ (by decide +kernel)) ggX4_sortRead_X4_isWord
theorem dX4_sortRead_0 : decode cX4_sortRead 0 = .ok (.aload_n 0, 1) := by decide +kernel
theorem dX4_sortRead_1 : decode cX4_sortRead 1 = .ok (.ldc 61, 2) := by decide +kernel
theorem dX4_sortRead_3 : decode cX4_sortRead 3 = .ok (.invokevirtual 42, 3) := by decide +kernel
theorem dX4_sortRead_6 : decode cX4_sortRead 6 = .ok (.ifCond .eq 5, 3) := by decide +kernel
theorem dX4_sortRead_9 : decode cX4_sortRead 9 = .ok (.iconst 1, 1) := by decide +kernel
theorem dX4_sortRead_10 : decode cX4_sortRead 10 = .ok (.ireturn, 1) := by decide +kernel
theorem dX4_sortRead_11 : decode cX4_sortRead 11 = .ok (.aload_n 0, 1) := by decide +kernel
theorem dX4_sortRead_12 : decode cX4_sortRead 12 = .ok (.ldc 63, 2) := by decide +kernel
theorem dX4_sortRead_14 : decode cX4_sortRead 14 = .ok (.invokevirtual 42, 3) := by decide +kernel
theorem dX4_sortRead_17 : decode cX4_sortRead 17 = .ok (.ifCond .eq 5, 3) := by decide +kernel
theorem dX4_sortRead_20 : decode cX4_sortRead 20 = .ok (.iconst 2, 1) := by decide +kernel
theorem dX4_sortRead_21 : decode cX4_sortRead 21 = .ok (.ireturn, 1) := by decide +kernel
theorem dX4_sortRead_22 : decode cX4_sortRead 22 = .ok (.aload_n 0, 1) := by decide +kernel
theorem dX4_sortRead_23 : decode cX4_sortRead 23 = .ok (.ldc 65, 2) := by decide +kernel
theorem dX4_sortRead_25 : decode cX4_sortRead 25 = .ok (.invokevirtual 42, 3) := by decide +kernel
theorem dX4_sortRead_28 : decode cX4_sortRead 28 = .ok (.ifCond .eq 5, 3) := by decide +kernel
theorem dX4_sortRead_31 : decode cX4_sortRead 31 = .ok (.iconst 3, 1) := by decide +kernel
theorem dX4_sortRead_32 : decode cX4_sortRead 32 = .ok (.ireturn, 1) := by decide +kernel
theorem dX4_sortRead_33 : decode cX4_sortRead 33 = .ok (.aload_n 0, 1) := by decide +kernel
theorem dX4_sortRead_34 : decode cX4_sortRead 34 = .ok (.ldc 67, 2) := by decide +kernel
theorem dX4_sortRead_36 : decode cX4_sortRead 36 = .ok (.invokevirtual 42, 3) := by decide +kernel
theorem dX4_sortRead_39 : decode cX4_sortRead 39 = .ok (.ifCond .eq 5, 3) := by decide +kernel
theorem dX4_sortRead_42 : decode cX4_sortRead 42 = .ok (.iconst 4, 1) := by decide +kernel
theorem dX4_sortRead_43 : decode cX4_sortRead 43 = .ok (.ireturn, 1) := by decide +kernel
theorem dX4_sortRead_44 : decode cX4_sortRead 44 = .ok (.aload_n 0, 1) := by decide +kernel
theorem dX4_sortRead_45 : decode cX4_sortRead 45 = .ok (.ldc 69, 2) := by decide +kernel
theorem dX4_sortRead_47 : decode cX4_sortRead 47 = .ok (.invokevirtual 42, 3) := by decide +kernel
theorem dX4_sortRead_50 : decode cX4_sortRead 50 = .ok (.ifCond .eq 7, 3) := by decide +kernel
theorem dX4_sortRead_53 : decode cX4_sortRead 53 = .ok (.iconst 5, 1) := by decide +kernel
theorem dX4_sortRead_54 : decode cX4_sortRead 54 = .ok (.goto 4, 3) := by decide +kernel
theorem dX4_sortRead_57 : decode cX4_sortRead 57 = .ok (.iconst 0, 1) := by decide +kernel
theorem dX4_sortRead_58 : decode cX4_sortRead 58 = .ok (.ireturn, 1) := by decide +kernel
set_option maxRecDepth 20000 in
theorem ggX4_isWord_J0_length_8abf5 : GoodIn wsX4_isWord wsJ0_length_8abf5 := goodIn_r _ [9, 10, 11, 12, 13, 8, 14, 15, 16] (by decide +kernel) (by decide +kernel)
set_option maxRecDepth 20000 in
theorem gX4_isWord_J0_length_8abf5 : GoodIn wsX4_isWord (wsV RX4 71 RJ0 yJ0_length_8abf5 wsJ0_length_8abf5) := goodIn_app (goodIn_of _ (by decide +kernel)) ggX4_isWord_J0_length_8abf5
set_option maxRecDepth 20000 in
theorem ggX4_isWord_X6_at : GoodIn wsX4_isWord wsX6_at := goodIn_r _ [21, 22, 23, 66, 67] (by decide +kernel) (by decide +kernel)
set_option maxRecDepth 20000 in
theorem gX4_isWord_X6_at : GoodIn wsX4_isWord (wsV RX4 76 RX6 yX6_at wsX6_at) := goodIn_app (goodIn_of _ (by decide +kernel)) ggX4_isWord_X6_at
set_option maxRecDepth 20000 in
theorem ggX4_isWord_J0_charAt_5068e : GoodIn wsX4_isWord wsJ0_charAt_5068e := goodIn_r _ [27, 10, 28, 29, 30, 8, 31, 15, 16, 32, 33, 34, 35, 36, 37, 38, 39, 40, 41, 42, 43, 44, 45, 46, 47, 48, 49, 50, 51, 52, 53, 54, 55, 56, 57, 58, 59, 60] (by decide +kernel) (by decide +kernel)
set_option maxRecDepth 20000 in
theorem gX4_isWord_J0_charAt_5068e : GoodIn wsX4_isWord (wsV RX4 82 RJ0 yJ0_charAt_5068e wsJ0_charAt_5068e) := goodIn_app (goodIn_of _ (by decide +kernel)) ggX4_isWord_J0_charAt_5068e
theorem dX4_isWord_0 : decode cX4_isWord 0 = .ok (.aload_n 0, 1) := by decide +kernel
theorem dX4_isWord_1 : decode cX4_isWord 1 = .ok (.getfield 15, 3) := by decide +kernel
theorem dX4_isWord_4 : decode cX4_isWord 4 = .ok (.iconst 1, 1) := by decide +kernel
theorem dX4_isWord_5 : decode cX4_isWord 5 = .ok (.if_icmp .ne 19, 3) := by decide +kernel
theorem dX4_isWord_8 : decode cX4_isWord 8 = .ok (.aload_n 0, 1) := by decide +kernel
theorem dX4_isWord_9 : decode cX4_isWord 9 = .ok (.getfield 22, 3) := by decide +kernel
theorem dX4_isWord_12 : decode cX4_isWord 12 = .ok (.aload_n 0, 1) := by decide +kernel
theorem dX4_isWord_13 : decode cX4_isWord 13 = .ok (.getfield 19, 3) := by decide +kernel
theorem dX4_isWord_16 : decode cX4_isWord 16 = .ok (.isub, 1) := by decide +kernel
theorem dX4_isWord_17 : decode cX4_isWord 17 = .ok (.aload_n 1, 1) := by decide +kernel
theorem dX4_isWord_18 : decode cX4_isWord 18 = .ok (.invokevirtual 71, 3) := by decide +kernel
theorem dX4_isWord_21 : decode cX4_isWord 21 = .ok (.if_icmp .eq 5, 3) := by decide +kernel
theorem dX4_isWord_24 : decode cX4_isWord 24 = .ok (.iconst 0, 1) := by decide +kernel
theorem dX4_isWord_25 : decode cX4_isWord 25 = .ok (.ireturn, 1) := by decide +kernel
theorem dX4_isWord_26 : decode cX4_isWord 26 = .ok (.iconst 0, 1) := by decide +kernel
theorem dX4_isWord_27 : decode cX4_isWord 27 = .ok (.istore_n 2, 1) := by decide +kernel
theorem dX4_isWord_28 : decode cX4_isWord 28 = .ok (.iload_n 2, 1) := by decide +kernel
theorem dX4_isWord_29 : decode cX4_isWord 29 = .ok (.aload_n 1, 1) := by decide +kernel
theorem dX4_isWord_30 : decode cX4_isWord 30 = .ok (.invokevirtual 71, 3) := by decide +kernel
theorem dX4_isWord_33 : decode cX4_isWord 33 = .ok (.if_icmp .ge 32, 3) := by decide +kernel
theorem dX4_isWord_36 : decode cX4_isWord 36 = .ok (.aload_n 0, 1) := by decide +kernel
theorem dX4_isWord_37 : decode cX4_isWord 37 = .ok (.getfield 9, 3) := by decide +kernel
theorem dX4_isWord_40 : decode cX4_isWord 40 = .ok (.aload_n 0, 1) := by decide +kernel
theorem dX4_isWord_41 : decode cX4_isWord 41 = .ok (.getfield 19, 3) := by decide +kernel
theorem dX4_isWord_44 : decode cX4_isWord 44 = .ok (.iload_n 2, 1) := by decide +kernel
theorem dX4_isWord_45 : decode cX4_isWord 45 = .ok (.iadd, 1) := by decide +kernel
theorem dX4_isWord_46 : decode cX4_isWord 46 = .ok (.invokevirtual 76, 3) := by decide +kernel
theorem dX4_isWord_49 : decode cX4_isWord 49 = .ok (.aload_n 1, 1) := by decide +kernel
theorem dX4_isWord_50 : decode cX4_isWord 50 = .ok (.iload_n 2, 1) := by decide +kernel
theorem dX4_isWord_51 : decode cX4_isWord 51 = .ok (.invokevirtual 82, 3) := by decide +kernel
theorem dX4_isWord_54 : decode cX4_isWord 54 = .ok (.if_icmp .eq 5, 3) := by decide +kernel
theorem dX4_isWord_57 : decode cX4_isWord 57 = .ok (.iconst 0, 1) := by decide +kernel
theorem dX4_isWord_58 : decode cX4_isWord 58 = .ok (.ireturn, 1) := by decide +kernel
theorem dX4_isWord_59 : decode cX4_isWord 59 = .ok (.iinc 2 1, 3) := by decide +kernel
theorem dX4_isWord_62 : decode cX4_isWord 62 = .ok (.goto (-34), 3) := by decide +kernel
theorem dX4_isWord_65 : decode cX4_isWord 65 = .ok (.iconst 1, 1) := by decide +kernel
theorem dX4_isWord_66 : decode cX4_isWord 66 = .ok (.ireturn, 1) := by decide +kernel
set_option maxRecDepth 20000 in
theorem ggX4_step_X6_at : GoodIn wsX4_step wsX6_at := goodIn_r _ [10, 11, 12, 37, 38] (by decide +kernel) (by decide +kernel)
set_option maxRecDepth 20000 in
theorem gX4_step_X6_at : GoodIn wsX4_step (wsV RX4 76 RX6 yX6_at wsX6_at) := goodIn_app (goodIn_of _ (by decide +kernel)) ggX4_step_X6_at
set_option maxRecDepth 20000 in
theorem ggX4_step_X4_isBlank : GoodIn wsX4_step wsX4_isBlank := goodIn_r _ [16] (by decide +kernel) (by decide +kernel)
set_option maxRecDepth 20000 in
theorem gX4_step_X4_isBlank : GoodIn wsX4_step (va_wsS RX4 88 yX4_isBlank wsX4_isBlank) := goodIn_app (goodIn_of _ (by decide +kernel)) ggX4_step_X4_isBlank
set_option maxRecDepth 20000 in
theorem ggX4_step_X4_isLetter : GoodIn wsX4_step wsX4_isLetter := goodIn_r _ [19] (by decide +kernel) (by decide +kernel)
set_option maxRecDepth 20000 in
theorem gX4_step_X4_isLetter : GoodIn wsX4_step (va_wsS RX4 91 yX4_isLetter wsX4_isLetter) := goodIn_app (goodIn_of _ (by decide +kernel)) ggX4_step_X4_isLetter
set_option maxRecDepth 20000 in
theorem ggX4_step_X4_stepName : GoodIn wsX4_step wsX4_stepName := goodIn_r _ [23, 5, 1, 3, 4, 6, 7, 8, 9, 10, 11, 12, 17, 18, 15, 19, 32, 33, 34, 35, 36, 37, 38] (by decide +kernel) (by decide +kernel)
set_option maxRecDepth 20000 in
theorem gX4_step_X4_stepName : GoodIn wsX4_step (wsV RX4 94 RX4 yX4_stepName wsX4_stepName) := goodIn_app (goodIn_of _ (by decide +kernel)) ggX4_step_X4_stepName
set_option maxRecDepth 20000 in
theorem ggX4_step_X4_isFigure : GoodIn wsX4_step wsX4_isFigure := goodIn_r _ [26] (by decide +kernel) (by decide +kernel)
set_option maxRecDepth 20000 in
theorem gX4_step_X4_isFigure : GoodIn wsX4_step (va_wsS RX4 97 yX4_isFigure wsX4_isFigure) := goodIn_app (goodIn_of _ (by decide +kernel)) ggX4_step_X4_isFigure
set_option maxRecDepth 20000 in
theorem ggX4_step_X4_stepNumber : GoodIn wsX4_step wsX4_stepNumber := goodIn_r _ [30, 31, 1, 3, 4, 2, 5, 6, 7, 8, 9, 10, 11, 12, 24, 25, 15, 26, 32, 33, 34, 35, 36, 37, 38] (by decide +kernel) (by decide +kernel)
set_option maxRecDepth 20000 in
theorem gX4_step_X4_stepNumber : GoodIn wsX4_step (wsV RX4 100 RX4 yX4_stepNumber wsX4_stepNumber) := goodIn_app (goodIn_of _ (by decide +kernel)) ggX4_step_X4_stepNumber
theorem dX4_step_0 : decode cX4_step 0 = .ok (.aload_n 0, 1) := by decide +kernel
theorem dX4_step_1 : decode cX4_step 1 = .ok (.aload_n 0, 1) := by decide +kernel
theorem dX4_step_2 : decode cX4_step 2 = .ok (.getfield 22, 3) := by decide +kernel
theorem dX4_step_5 : decode cX4_step 5 = .ok (.putfield 19, 3) := by decide +kernel
theorem dX4_step_8 : decode cX4_step 8 = .ok (.aload_n 0, 1) := by decide +kernel
theorem dX4_step_9 : decode cX4_step 9 = .ok (.getfield 19, 3) := by decide +kernel
theorem dX4_step_12 : decode cX4_step 12 = .ok (.aload_n 0, 1) := by decide +kernel
theorem dX4_step_13 : decode cX4_step 13 = .ok (.getfield 9, 3) := by decide +kernel
theorem dX4_step_16 : decode cX4_step 16 = .ok (.getfield 86, 3) := by decide +kernel
theorem dX4_step_19 : decode cX4_step 19 = .ok (.if_icmp .ge 33, 3) := by decide +kernel
theorem dX4_step_22 : decode cX4_step 22 = .ok (.aload_n 0, 1) := by decide +kernel
theorem dX4_step_23 : decode cX4_step 23 = .ok (.getfield 9, 3) := by decide +kernel
theorem dX4_step_26 : decode cX4_step 26 = .ok (.aload_n 0, 1) := by decide +kernel
theorem dX4_step_27 : decode cX4_step 27 = .ok (.getfield 19, 3) := by decide +kernel
theorem dX4_step_30 : decode cX4_step 30 = .ok (.invokevirtual 76, 3) := by decide +kernel
theorem dX4_step_33 : decode cX4_step 33 = .ok (.invokestatic 88, 3) := by decide +kernel
theorem dX4_step_36 : decode cX4_step 36 = .ok (.ifCond .eq 16, 3) := by decide +kernel
theorem dX4_step_39 : decode cX4_step 39 = .ok (.aload_n 0, 1) := by decide +kernel
theorem dX4_step_40 : decode cX4_step 40 = .ok (.dup, 1) := by decide +kernel
theorem dX4_step_41 : decode cX4_step 41 = .ok (.getfield 19, 3) := by decide +kernel
theorem dX4_step_44 : decode cX4_step 44 = .ok (.iconst 1, 1) := by decide +kernel
theorem dX4_step_45 : decode cX4_step 45 = .ok (.iadd, 1) := by decide +kernel
theorem dX4_step_46 : decode cX4_step 46 = .ok (.putfield 19, 3) := by decide +kernel
theorem dX4_step_49 : decode cX4_step 49 = .ok (.goto (-41), 3) := by decide +kernel
theorem dX4_step_52 : decode cX4_step 52 = .ok (.aload_n 0, 1) := by decide +kernel
theorem dX4_step_53 : decode cX4_step 53 = .ok (.aload_n 0, 1) := by decide +kernel
theorem dX4_step_54 : decode cX4_step 54 = .ok (.getfield 19, 3) := by decide +kernel
theorem dX4_step_57 : decode cX4_step 57 = .ok (.putfield 22, 3) := by decide +kernel
theorem dX4_step_60 : decode cX4_step 60 = .ok (.aload_n 0, 1) := by decide +kernel
theorem dX4_step_61 : decode cX4_step 61 = .ok (.getfield 19, 3) := by decide +kernel
theorem dX4_step_64 : decode cX4_step 64 = .ok (.aload_n 0, 1) := by decide +kernel
theorem dX4_step_65 : decode cX4_step 65 = .ok (.getfield 9, 3) := by decide +kernel
theorem dX4_step_68 : decode cX4_step 68 = .ok (.getfield 86, 3) := by decide +kernel
theorem dX4_step_71 : decode cX4_step 71 = .ok (.if_icmp .lt 11, 3) := by decide +kernel
theorem dX4_step_74 : decode cX4_step 74 = .ok (.aload_n 0, 1) := by decide +kernel
theorem dX4_step_75 : decode cX4_step 75 = .ok (.iconst 0, 1) := by decide +kernel
theorem dX4_step_76 : decode cX4_step 76 = .ok (.putfield 15, 3) := by decide +kernel
theorem dX4_step_79 : decode cX4_step 79 = .ok (.goto 86, 3) := by decide +kernel
theorem dX4_step_82 : decode cX4_step 82 = .ok (.aload_n 0, 1) := by decide +kernel
theorem dX4_step_83 : decode cX4_step 83 = .ok (.getfield 9, 3) := by decide +kernel
theorem dX4_step_86 : decode cX4_step 86 = .ok (.aload_n 0, 1) := by decide +kernel
theorem dX4_step_87 : decode cX4_step 87 = .ok (.getfield 19, 3) := by decide +kernel
theorem dX4_step_90 : decode cX4_step 90 = .ok (.invokevirtual 76, 3) := by decide +kernel
theorem dX4_step_93 : decode cX4_step 93 = .ok (.invokestatic 91, 3) := by decide +kernel
theorem dX4_step_96 : decode cX4_step 96 = .ok (.ifCond .eq 10, 3) := by decide +kernel
theorem dX4_step_99 : decode cX4_step 99 = .ok (.aload_n 0, 1) := by decide +kernel
theorem dX4_step_100 : decode cX4_step 100 = .ok (.invokevirtual 94, 3) := by decide +kernel
theorem dX4_step_103 : decode cX4_step 103 = .ok (.goto 62, 3) := by decide +kernel
theorem dX4_step_106 : decode cX4_step 106 = .ok (.aload_n 0, 1) := by decide +kernel
theorem dX4_step_107 : decode cX4_step 107 = .ok (.getfield 9, 3) := by decide +kernel
theorem dX4_step_110 : decode cX4_step 110 = .ok (.aload_n 0, 1) := by decide +kernel
theorem dX4_step_111 : decode cX4_step 111 = .ok (.getfield 19, 3) := by decide +kernel
theorem dX4_step_114 : decode cX4_step 114 = .ok (.invokevirtual 76, 3) := by decide +kernel
theorem dX4_step_117 : decode cX4_step 117 = .ok (.invokestatic 97, 3) := by decide +kernel
theorem dX4_step_120 : decode cX4_step 120 = .ok (.ifCond .eq 10, 3) := by decide +kernel
theorem dX4_step_123 : decode cX4_step 123 = .ok (.aload_n 0, 1) := by decide +kernel
theorem dX4_step_124 : decode cX4_step 124 = .ok (.invokevirtual 100, 3) := by decide +kernel
theorem dX4_step_127 : decode cX4_step 127 = .ok (.goto 38, 3) := by decide +kernel
theorem dX4_step_130 : decode cX4_step 130 = .ok (.aload_n 0, 1) := by decide +kernel
theorem dX4_step_131 : decode cX4_step 131 = .ok (.aload_n 0, 1) := by decide +kernel
theorem dX4_step_132 : decode cX4_step 132 = .ok (.getfield 9, 3) := by decide +kernel
theorem dX4_step_135 : decode cX4_step 135 = .ok (.aload_n 0, 1) := by decide +kernel
theorem dX4_step_136 : decode cX4_step 136 = .ok (.getfield 19, 3) := by decide +kernel
theorem dX4_step_139 : decode cX4_step 139 = .ok (.invokevirtual 76, 3) := by decide +kernel
theorem dX4_step_142 : decode cX4_step 142 = .ok (.bipush 59, 2) := by decide +kernel
theorem dX4_step_144 : decode cX4_step 144 = .ok (.if_icmp .ne 7, 3) := by decide +kernel
theorem dX4_step_147 : decode cX4_step 147 = .ok (.iconst 3, 1) := by decide +kernel
theorem dX4_step_148 : decode cX4_step 148 = .ok (.goto 4, 3) := by decide +kernel
theorem dX4_step_151 : decode cX4_step 151 = .ok (.iconst 4, 1) := by decide +kernel
theorem dX4_step_152 : decode cX4_step 152 = .ok (.putfield 15, 3) := by decide +kernel
theorem dX4_step_155 : decode cX4_step 155 = .ok (.aload_n 0, 1) := by decide +kernel
theorem dX4_step_156 : decode cX4_step 156 = .ok (.aload_n 0, 1) := by decide +kernel
theorem dX4_step_157 : decode cX4_step 157 = .ok (.getfield 19, 3) := by decide +kernel
theorem dX4_step_160 : decode cX4_step 160 = .ok (.iconst 1, 1) := by decide +kernel
theorem dX4_step_161 : decode cX4_step 161 = .ok (.iadd, 1) := by decide +kernel
theorem dX4_step_162 : decode cX4_step 162 = .ok (.putfield 22, 3) := by decide +kernel
theorem dX4_step_165 : decode cX4_step 165 = .ok (.return_, 1) := by decide +kernel
set_option maxRecDepth 20000 in
theorem ggX4_stepName_X6_at : GoodIn wsX4_stepName wsX6_at := goodIn_r _ [9, 10, 11, 21, 22] (by decide +kernel) (by decide +kernel)
set_option maxRecDepth 20000 in
theorem gX4_stepName_X6_at : GoodIn wsX4_stepName (wsV RX4 76 RX6 yX6_at wsX6_at) := goodIn_app (goodIn_of _ (by decide +kernel)) ggX4_stepName_X6_at
set_option maxRecDepth 20000 in
theorem ggX4_stepName_X4_isLetter : GoodIn wsX4_stepName wsX4_isLetter := goodIn_r _ [15] (by decide +kernel) (by decide +kernel)
set_option maxRecDepth 20000 in
theorem gX4_stepName_X4_isLetter : GoodIn wsX4_stepName (va_wsS RX4 91 yX4_isLetter wsX4_isLetter) := goodIn_app (goodIn_of _ (by decide +kernel)) ggX4_stepName_X4_isLetter
theorem dX4_stepName_0 : decode cX4_stepName 0 = .ok (.aload_n 0, 1) := by decide +kernel
theorem dX4_stepName_1 : decode cX4_stepName 1 = .ok (.iconst 1, 1) := by decide +kernel
theorem dX4_stepName_2 : decode cX4_stepName 2 = .ok (.putfield 15, 3) := by decide +kernel
theorem dX4_stepName_5 : decode cX4_stepName 5 = .ok (.aload_n 0, 1) := by decide +kernel
theorem dX4_stepName_6 : decode cX4_stepName 6 = .ok (.getfield 22, 3) := by decide +kernel
theorem dX4_stepName_9 : decode cX4_stepName 9 = .ok (.aload_n 0, 1) := by decide +kernel
theorem dX4_stepName_10 : decode cX4_stepName 10 = .ok (.getfield 9, 3) := by decide +kernel
theorem dX4_stepName_13 : decode cX4_stepName 13 = .ok (.getfield 86, 3) := by decide +kernel
theorem dX4_stepName_16 : decode cX4_stepName 16 = .ok (.if_icmp .ge 33, 3) := by decide +kernel
theorem dX4_stepName_19 : decode cX4_stepName 19 = .ok (.aload_n 0, 1) := by decide +kernel
theorem dX4_stepName_20 : decode cX4_stepName 20 = .ok (.getfield 9, 3) := by decide +kernel
theorem dX4_stepName_23 : decode cX4_stepName 23 = .ok (.aload_n 0, 1) := by decide +kernel
theorem dX4_stepName_24 : decode cX4_stepName 24 = .ok (.getfield 22, 3) := by decide +kernel
theorem dX4_stepName_27 : decode cX4_stepName 27 = .ok (.invokevirtual 76, 3) := by decide +kernel
theorem dX4_stepName_30 : decode cX4_stepName 30 = .ok (.invokestatic 91, 3) := by decide +kernel
theorem dX4_stepName_33 : decode cX4_stepName 33 = .ok (.ifCond .eq 16, 3) := by decide +kernel
theorem dX4_stepName_36 : decode cX4_stepName 36 = .ok (.aload_n 0, 1) := by decide +kernel
theorem dX4_stepName_37 : decode cX4_stepName 37 = .ok (.dup, 1) := by decide +kernel
theorem dX4_stepName_38 : decode cX4_stepName 38 = .ok (.getfield 22, 3) := by decide +kernel
theorem dX4_stepName_41 : decode cX4_stepName 41 = .ok (.iconst 1, 1) := by decide +kernel
theorem dX4_stepName_42 : decode cX4_stepName 42 = .ok (.iadd, 1) := by decide +kernel
theorem dX4_stepName_43 : decode cX4_stepName 43 = .ok (.putfield 22, 3) := by decide +kernel
theorem dX4_stepName_46 : decode cX4_stepName 46 = .ok (.goto (-41), 3) := by decide +kernel
theorem dX4_stepName_49 : decode cX4_stepName 49 = .ok (.return_, 1) := by decide +kernel
set_option maxRecDepth 20000 in
theorem ggX4_stepNumber_X6_at : GoodIn wsX4_stepNumber wsX6_at := goodIn_r _ [11, 12, 13, 23, 24] (by decide +kernel) (by decide +kernel)
set_option maxRecDepth 20000 in
theorem gX4_stepNumber_X6_at : GoodIn wsX4_stepNumber (wsV RX4 76 RX6 yX6_at wsX6_at) := goodIn_app (goodIn_of _ (by decide +kernel)) ggX4_stepNumber_X6_at
set_option maxRecDepth 20000 in
theorem ggX4_stepNumber_X4_isFigure : GoodIn wsX4_stepNumber wsX4_isFigure := goodIn_r _ [17] (by decide +kernel) (by decide +kernel)
set_option maxRecDepth 20000 in
theorem gX4_stepNumber_X4_isFigure : GoodIn wsX4_stepNumber (va_wsS RX4 97 yX4_isFigure wsX4_isFigure) := goodIn_app (goodIn_of _ (by decide +kernel)) ggX4_stepNumber_X4_isFigure
theorem dX4_stepNumber_0 : decode cX4_stepNumber 0 = .ok (.aload_n 0, 1) := by decide +kernel
theorem dX4_stepNumber_1 : decode cX4_stepNumber 1 = .ok (.iconst 0, 1) := by decide +kernel
theorem dX4_stepNumber_2 : decode cX4_stepNumber 2 = .ok (.putfield 25, 3) := by decide +kernel
theorem dX4_stepNumber_5 : decode cX4_stepNumber 5 = .ok (.aload_n 0, 1) := by decide +kernel
theorem dX4_stepNumber_6 : decode cX4_stepNumber 6 = .ok (.getfield 22, 3) := by decide +kernel
theorem dX4_stepNumber_9 : decode cX4_stepNumber 9 = .ok (.aload_n 0, 1) := by decide +kernel
theorem dX4_stepNumber_10 : decode cX4_stepNumber 10 = .ok (.getfield 9, 3) := by decide +kernel
theorem dX4_stepNumber_13 : decode cX4_stepNumber 13 = .ok (.getfield 86, 3) := by decide +kernel
theorem dX4_stepNumber_16 : decode cX4_stepNumber 16 = .ok (.if_icmp .ge 79, 3) := by decide +kernel
theorem dX4_stepNumber_19 : decode cX4_stepNumber 19 = .ok (.aload_n 0, 1) := by decide +kernel
theorem dX4_stepNumber_20 : decode cX4_stepNumber 20 = .ok (.getfield 9, 3) := by decide +kernel
theorem dX4_stepNumber_23 : decode cX4_stepNumber 23 = .ok (.aload_n 0, 1) := by decide +kernel
theorem dX4_stepNumber_24 : decode cX4_stepNumber 24 = .ok (.getfield 22, 3) := by decide +kernel
theorem dX4_stepNumber_27 : decode cX4_stepNumber 27 = .ok (.invokevirtual 76, 3) := by decide +kernel
theorem dX4_stepNumber_30 : decode cX4_stepNumber 30 = .ok (.invokestatic 97, 3) := by decide +kernel
theorem dX4_stepNumber_33 : decode cX4_stepNumber 33 = .ok (.ifCond .eq 62, 3) := by decide +kernel
theorem dX4_stepNumber_36 : decode cX4_stepNumber 36 = .ok (.aload_n 0, 1) := by decide +kernel
theorem dX4_stepNumber_37 : decode cX4_stepNumber 37 = .ok (.aload_n 0, 1) := by decide +kernel
theorem dX4_stepNumber_38 : decode cX4_stepNumber 38 = .ok (.getfield 22, 3) := by decide +kernel
theorem dX4_stepNumber_41 : decode cX4_stepNumber 41 = .ok (.aload_n 0, 1) := by decide +kernel
theorem dX4_stepNumber_42 : decode cX4_stepNumber 42 = .ok (.getfield 19, 3) := by decide +kernel
theorem dX4_stepNumber_45 : decode cX4_stepNumber 45 = .ok (.isub, 1) := by decide +kernel
theorem dX4_stepNumber_46 : decode cX4_stepNumber 46 = .ok (.iconst 3, 1) := by decide +kernel
theorem dX4_stepNumber_47 : decode cX4_stepNumber 47 = .ok (.if_icmp .ge 28, 3) := by decide +kernel
theorem dX4_stepNumber_50 : decode cX4_stepNumber 50 = .ok (.aload_n 0, 1) := by decide +kernel
theorem dX4_stepNumber_51 : decode cX4_stepNumber 51 = .ok (.getfield 25, 3) := by decide +kernel
theorem dX4_stepNumber_54 : decode cX4_stepNumber 54 = .ok (.bipush 10, 2) := by decide +kernel
theorem dX4_stepNumber_56 : decode cX4_stepNumber 56 = .ok (.imul, 1) := by decide +kernel
theorem dX4_stepNumber_57 : decode cX4_stepNumber 57 = .ok (.aload_n 0, 1) := by decide +kernel
theorem dX4_stepNumber_58 : decode cX4_stepNumber 58 = .ok (.getfield 9, 3) := by decide +kernel
theorem dX4_stepNumber_61 : decode cX4_stepNumber 61 = .ok (.aload_n 0, 1) := by decide +kernel
theorem dX4_stepNumber_62 : decode cX4_stepNumber 62 = .ok (.getfield 22, 3) := by decide +kernel
theorem dX4_stepNumber_65 : decode cX4_stepNumber 65 = .ok (.invokevirtual 76, 3) := by decide +kernel
theorem dX4_stepNumber_68 : decode cX4_stepNumber 68 = .ok (.iadd, 1) := by decide +kernel
theorem dX4_stepNumber_69 : decode cX4_stepNumber 69 = .ok (.bipush 48, 2) := by decide +kernel
theorem dX4_stepNumber_71 : decode cX4_stepNumber 71 = .ok (.isub, 1) := by decide +kernel
theorem dX4_stepNumber_72 : decode cX4_stepNumber 72 = .ok (.goto 7, 3) := by decide +kernel
theorem dX4_stepNumber_75 : decode cX4_stepNumber 75 = .ok (.aload_n 0, 1) := by decide +kernel
theorem dX4_stepNumber_76 : decode cX4_stepNumber 76 = .ok (.getfield 25, 3) := by decide +kernel
theorem dX4_stepNumber_79 : decode cX4_stepNumber 79 = .ok (.putfield 25, 3) := by decide +kernel
theorem dX4_stepNumber_82 : decode cX4_stepNumber 82 = .ok (.aload_n 0, 1) := by decide +kernel
theorem dX4_stepNumber_83 : decode cX4_stepNumber 83 = .ok (.dup, 1) := by decide +kernel
theorem dX4_stepNumber_84 : decode cX4_stepNumber 84 = .ok (.getfield 22, 3) := by decide +kernel
theorem dX4_stepNumber_87 : decode cX4_stepNumber 87 = .ok (.iconst 1, 1) := by decide +kernel
theorem dX4_stepNumber_88 : decode cX4_stepNumber 88 = .ok (.iadd, 1) := by decide +kernel
theorem dX4_stepNumber_89 : decode cX4_stepNumber 89 = .ok (.putfield 22, 3) := by decide +kernel
theorem dX4_stepNumber_92 : decode cX4_stepNumber 92 = .ok (.goto (-87), 3) := by decide +kernel
theorem dX4_stepNumber_95 : decode cX4_stepNumber 95 = .ok (.aload_n 0, 1) := by decide +kernel
theorem dX4_stepNumber_96 : decode cX4_stepNumber 96 = .ok (.aload_n 0, 1) := by decide +kernel
theorem dX4_stepNumber_97 : decode cX4_stepNumber 97 = .ok (.getfield 22, 3) := by decide +kernel
theorem dX4_stepNumber_100 : decode cX4_stepNumber 100 = .ok (.aload_n 0, 1) := by decide +kernel
theorem dX4_stepNumber_101 : decode cX4_stepNumber 101 = .ok (.getfield 19, 3) := by decide +kernel
theorem dX4_stepNumber_104 : decode cX4_stepNumber 104 = .ok (.isub, 1) := by decide +kernel
theorem dX4_stepNumber_105 : decode cX4_stepNumber 105 = .ok (.iconst 3, 1) := by decide +kernel
theorem dX4_stepNumber_106 : decode cX4_stepNumber 106 = .ok (.if_icmp .le 7, 3) := by decide +kernel
theorem dX4_stepNumber_109 : decode cX4_stepNumber 109 = .ok (.iconst 4, 1) := by decide +kernel
theorem dX4_stepNumber_110 : decode cX4_stepNumber 110 = .ok (.goto 4, 3) := by decide +kernel
theorem dX4_stepNumber_113 : decode cX4_stepNumber 113 = .ok (.iconst 2, 1) := by decide +kernel
theorem dX4_stepNumber_114 : decode cX4_stepNumber 114 = .ok (.putfield 15, 3) := by decide +kernel
theorem dX4_stepNumber_117 : decode cX4_stepNumber 117 = .ok (.return_, 1) := by decide +kernel
theorem dX4_isBlank_0 : decode cX4_isBlank 0 = .ok (.iload_n 0, 1) := by decide +kernel
theorem dX4_isBlank_1 : decode cX4_isBlank 1 = .ok (.bipush 32, 2) := by decide +kernel
theorem dX4_isBlank_3 : decode cX4_isBlank 3 = .ok (.if_icmp .eq 9, 3) := by decide +kernel
theorem dX4_isBlank_6 : decode cX4_isBlank 6 = .ok (.iload_n 0, 1) := by decide +kernel
theorem dX4_isBlank_7 : decode cX4_isBlank 7 = .ok (.bipush 10, 2) := by decide +kernel
theorem dX4_isBlank_9 : decode cX4_isBlank 9 = .ok (.if_icmp .ne 7, 3) := by decide +kernel
theorem dX4_isBlank_12 : decode cX4_isBlank 12 = .ok (.iconst 1, 1) := by decide +kernel
theorem dX4_isBlank_13 : decode cX4_isBlank 13 = .ok (.goto 4, 3) := by decide +kernel
theorem dX4_isBlank_16 : decode cX4_isBlank 16 = .ok (.iconst 0, 1) := by decide +kernel
theorem dX4_isBlank_17 : decode cX4_isBlank 17 = .ok (.ireturn, 1) := by decide +kernel
theorem dX4_isLetter_0 : decode cX4_isLetter 0 = .ok (.iload_n 0, 1) := by decide +kernel
theorem dX4_isLetter_1 : decode cX4_isLetter 1 = .ok (.bipush 97, 2) := by decide +kernel
theorem dX4_isLetter_3 : decode cX4_isLetter 3 = .ok (.if_icmp .lt 13, 3) := by decide +kernel
theorem dX4_isLetter_6 : decode cX4_isLetter 6 = .ok (.iload_n 0, 1) := by decide +kernel
theorem dX4_isLetter_7 : decode cX4_isLetter 7 = .ok (.bipush 122, 2) := by decide +kernel
theorem dX4_isLetter_9 : decode cX4_isLetter 9 = .ok (.if_icmp .gt 7, 3) := by decide +kernel
theorem dX4_isLetter_12 : decode cX4_isLetter 12 = .ok (.iconst 1, 1) := by decide +kernel
theorem dX4_isLetter_13 : decode cX4_isLetter 13 = .ok (.goto 4, 3) := by decide +kernel
theorem dX4_isLetter_16 : decode cX4_isLetter 16 = .ok (.iconst 0, 1) := by decide +kernel
theorem dX4_isLetter_17 : decode cX4_isLetter 17 = .ok (.ireturn, 1) := by decide +kernel
theorem dX4_isFigure_0 : decode cX4_isFigure 0 = .ok (.iload_n 0, 1) := by decide +kernel
theorem dX4_isFigure_1 : decode cX4_isFigure 1 = .ok (.bipush 48, 2) := by decide +kernel
theorem dX4_isFigure_3 : decode cX4_isFigure 3 = .ok (.if_icmp .lt 13, 3) := by decide +kernel
theorem dX4_isFigure_6 : decode cX4_isFigure 6 = .ok (.iload_n 0, 1) := by decide +kernel
theorem dX4_isFigure_7 : decode cX4_isFigure 7 = .ok (.bipush 57, 2) := by decide +kernel
theorem dX4_isFigure_9 : decode cX4_isFigure 9 = .ok (.if_icmp .gt 7, 3) := by decide +kernel
theorem dX4_isFigure_12 : decode cX4_isFigure 12 = .ok (.iconst 1, 1) := by decide +kernel
theorem dX4_isFigure_13 : decode cX4_isFigure 13 = .ok (.goto 4, 3) := by decide +kernel
theorem dX4_isFigure_16 : decode cX4_isFigure 16 = .ok (.iconst 0, 1) := by decide +kernel
theorem dX4_isFigure_17 : decode cX4_isFigure 17 = .ok (.ireturn, 1) := by decide +kernel
theorem dX5_init_0 : decode cX5_init 0 = .ok (.aload_n 0, 1) := by decide +kernel
theorem dX5_init_1 : decode cX5_init 1 = .ok (.invokespecial 1, 3) := by decide +kernel
theorem dX5_init_4 : decode cX5_init 4 = .ok (.aload_n 0, 1) := by decide +kernel
theorem dX5_init_5 : decode cX5_init 5 = .ok (.bipush 8, 2) := by decide +kernel
theorem dX5_init_7 : decode cX5_init 7 = .ok (.newarray .int, 2) := by decide +kernel
theorem dX5_init_9 : decode cX5_init 9 = .ok (.putfield 9, 3) := by decide +kernel
theorem dX5_init_12 : decode cX5_init 12 = .ok (.aload_n 0, 1) := by decide +kernel
theorem dX5_init_13 : decode cX5_init 13 = .ok (.bipush 8, 2) := by decide +kernel
theorem dX5_init_15 : decode cX5_init 15 = .ok (.newarray .int, 2) := by decide +kernel
theorem dX5_init_17 : decode cX5_init 17 = .ok (.putfield 13, 3) := by decide +kernel
theorem dX5_init_20 : decode cX5_init 20 = .ok (.aload_n 0, 1) := by decide +kernel
theorem dX5_init_21 : decode cX5_init 21 = .ok (.sipush 320, 3) := by decide +kernel
theorem dX5_init_24 : decode cX5_init 24 = .ok (.newarray .int, 2) := by decide +kernel
theorem dX5_init_26 : decode cX5_init 26 = .ok (.putfield 16, 3) := by decide +kernel
theorem dX5_init_29 : decode cX5_init 29 = .ok (.iconst 0, 1) := by decide +kernel
theorem dX5_init_30 : decode cX5_init 30 = .ok (.istore_n 1, 1) := by decide +kernel
theorem dX5_init_31 : decode cX5_init 31 = .ok (.iload_n 1, 1) := by decide +kernel
theorem dX5_init_32 : decode cX5_init 32 = .ok (.bipush 8, 2) := by decide +kernel
theorem dX5_init_34 : decode cX5_init 34 = .ok (.if_icmp .ge 16, 3) := by decide +kernel
theorem dX5_init_37 : decode cX5_init 37 = .ok (.aload_n 0, 1) := by decide +kernel
theorem dX5_init_38 : decode cX5_init 38 = .ok (.getfield 9, 3) := by decide +kernel
theorem dX5_init_41 : decode cX5_init 41 = .ok (.iload_n 1, 1) := by decide +kernel
theorem dX5_init_42 : decode cX5_init 42 = .ok (.iconst (-1), 1) := by decide +kernel
theorem dX5_init_43 : decode cX5_init 43 = .ok (.iastore, 1) := by decide +kernel
theorem dX5_init_44 : decode cX5_init 44 = .ok (.iinc 1 1, 3) := by decide +kernel
theorem dX5_init_47 : decode cX5_init 47 = .ok (.goto (-16), 3) := by decide +kernel
theorem dX5_init_50 : decode cX5_init 50 = .ok (.return_, 1) := by decide +kernel
theorem dX5_isMissing_0 : decode cX5_isMissing 0 = .ok (.aload_n 0, 1) := by decide +kernel
theorem dX5_isMissing_1 : decode cX5_isMissing 1 = .ok (.getfield 9, 3) := by decide +kernel
theorem dX5_isMissing_4 : decode cX5_isMissing 4 = .ok (.iload_n 1, 1) := by decide +kernel
theorem dX5_isMissing_5 : decode cX5_isMissing 5 = .ok (.iaload, 1) := by decide +kernel
theorem dX5_isMissing_6 : decode cX5_isMissing 6 = .ok (.iconst (-1), 1) := by decide +kernel
theorem dX5_isMissing_7 : decode cX5_isMissing 7 = .ok (.if_icmp .ne 7, 3) := by decide +kernel
theorem dX5_isMissing_10 : decode cX5_isMissing 10 = .ok (.iconst 1, 1) := by decide +kernel
theorem dX5_isMissing_11 : decode cX5_isMissing 11 = .ok (.goto 4, 3) := by decide +kernel
theorem dX5_isMissing_14 : decode cX5_isMissing 14 = .ok (.iconst 0, 1) := by decide +kernel
theorem dX5_isMissing_15 : decode cX5_isMissing 15 = .ok (.ireturn, 1) := by decide +kernel
theorem dX5_placeOf_0 : decode cX5_placeOf 0 = .ok (.iload_n 1, 1) := by decide +kernel
theorem dX5_placeOf_1 : decode cX5_placeOf 1 = .ok (.bipush 40, 2) := by decide +kernel
theorem dX5_placeOf_3 : decode cX5_placeOf 3 = .ok (.imul, 1) := by decide +kernel
theorem dX5_placeOf_4 : decode cX5_placeOf 4 = .ok (.iload_n 2, 1) := by decide +kernel
theorem dX5_placeOf_5 : decode cX5_placeOf 5 = .ok (.iadd, 1) := by decide +kernel
theorem dX5_placeOf_6 : decode cX5_placeOf 6 = .ok (.ireturn, 1) := by decide +kernel
set_option maxRecDepth 20000 in
theorem ggX5_itemOf_X5_placeOf : GoodIn wsX5_itemOf wsX5_placeOf := goodIn_r _ [6] (by decide +kernel) (by decide +kernel)
set_option maxRecDepth 20000 in
theorem gX5_itemOf_X5_placeOf : GoodIn wsX5_itemOf (wsV RX5 19 RX5 yX5_placeOf wsX5_placeOf) := goodIn_app (goodIn_of _ (by decide +kernel)) ggX5_itemOf_X5_placeOf
theorem dX5_itemOf_0 : decode cX5_itemOf 0 = .ok (.aload_n 0, 1) := by decide +kernel
theorem dX5_itemOf_1 : decode cX5_itemOf 1 = .ok (.getfield 16, 3) := by decide +kernel
theorem dX5_itemOf_4 : decode cX5_itemOf 4 = .ok (.aload_n 0, 1) := by decide +kernel
theorem dX5_itemOf_5 : decode cX5_itemOf 5 = .ok (.iload_n 1, 1) := by decide +kernel
theorem dX5_itemOf_6 : decode cX5_itemOf 6 = .ok (.iload_n 2, 1) := by decide +kernel
theorem dX5_itemOf_7 : decode cX5_itemOf 7 = .ok (.invokevirtual 19, 3) := by decide +kernel
theorem dX5_itemOf_10 : decode cX5_itemOf 10 = .ok (.iaload, 1) := by decide +kernel
theorem dX5_itemOf_11 : decode cX5_itemOf 11 = .ok (.ireturn, 1) := by decide +kernel
set_option maxRecDepth 20000 in
theorem ggX5_make_X5_placeOf : GoodIn wsX5_make wsX5_placeOf := goodIn_r _ [8] (by decide +kernel) (by decide +kernel)
set_option maxRecDepth 20000 in
theorem gX5_make_X5_placeOf : GoodIn wsX5_make (wsV RX5 19 RX5 yX5_placeOf wsX5_placeOf) := goodIn_app (goodIn_of _ (by decide +kernel)) ggX5_make_X5_placeOf
theorem dX5_make_0 : decode cX5_make 0 = .ok (.aload_n 0, 1) := by decide +kernel
theorem dX5_make_1 : decode cX5_make 1 = .ok (.getfield 9, 3) := by decide +kernel
theorem dX5_make_4 : decode cX5_make 4 = .ok (.iload_n 1, 1) := by decide +kernel
theorem dX5_make_5 : decode cX5_make 5 = .ok (.iload_n 2, 1) := by decide +kernel
theorem dX5_make_6 : decode cX5_make 6 = .ok (.iastore, 1) := by decide +kernel
theorem dX5_make_7 : decode cX5_make 7 = .ok (.aload_n 0, 1) := by decide +kernel
theorem dX5_make_8 : decode cX5_make 8 = .ok (.getfield 13, 3) := by decide +kernel
theorem dX5_make_11 : decode cX5_make 11 = .ok (.iload_n 1, 1) := by decide +kernel
theorem dX5_make_12 : decode cX5_make 12 = .ok (.iload_n 3, 1) := by decide +kernel
theorem dX5_make_13 : decode cX5_make 13 = .ok (.iastore, 1) := by decide +kernel
theorem dX5_make_14 : decode cX5_make 14 = .ok (.iconst 0, 1) := by decide +kernel
theorem dX5_make_15 : decode cX5_make 15 = .ok (.istore 4, 2) := by decide +kernel
theorem dX5_make_17 : decode cX5_make 17 = .ok (.iload 4, 2) := by decide +kernel
theorem dX5_make_19 : decode cX5_make 19 = .ok (.iload_n 3, 1) := by decide +kernel
theorem dX5_make_20 : decode cX5_make 20 = .ok (.if_icmp .ge 22, 3) := by decide +kernel
theorem dX5_make_23 : decode cX5_make 23 = .ok (.aload_n 0, 1) := by decide +kernel
theorem dX5_make_24 : decode cX5_make 24 = .ok (.getfield 16, 3) := by decide +kernel
theorem dX5_make_27 : decode cX5_make 27 = .ok (.aload_n 0, 1) := by decide +kernel
theorem dX5_make_28 : decode cX5_make 28 = .ok (.iload_n 1, 1) := by decide +kernel
theorem dX5_make_29 : decode cX5_make 29 = .ok (.iload 4, 2) := by decide +kernel
theorem dX5_make_31 : decode cX5_make 31 = .ok (.invokevirtual 19, 3) := by decide +kernel
theorem dX5_make_34 : decode cX5_make 34 = .ok (.iconst 0, 1) := by decide +kernel
theorem dX5_make_35 : decode cX5_make 35 = .ok (.iastore, 1) := by decide +kernel
theorem dX5_make_36 : decode cX5_make 36 = .ok (.iinc 4 1, 3) := by decide +kernel
theorem dX5_make_39 : decode cX5_make 39 = .ok (.goto (-22), 3) := by decide +kernel
theorem dX5_make_42 : decode cX5_make 42 = .ok (.return_, 1) := by decide +kernel
set_option maxRecDepth 20000 in
theorem ggX5_put_X5_placeOf : GoodIn wsX5_put wsX5_placeOf := goodIn_r _ [7] (by decide +kernel) (by decide +kernel)
set_option maxRecDepth 20000 in
theorem gX5_put_X5_placeOf : GoodIn wsX5_put (wsV RX5 19 RX5 yX5_placeOf wsX5_placeOf) := goodIn_app (goodIn_of _ (by decide +kernel)) ggX5_put_X5_placeOf
theorem dX5_put_0 : decode cX5_put 0 = .ok (.iload_n 3, 1) := by decide +kernel
theorem dX5_put_1 : decode cX5_put 1 = .ok (.istore 4, 2) := by decide +kernel
theorem dX5_put_3 : decode cX5_put 3 = .ok (.aload_n 0, 1) := by decide +kernel
theorem dX5_put_4 : decode cX5_put 4 = .ok (.getfield 9, 3) := by decide +kernel
theorem dX5_put_7 : decode cX5_put 7 = .ok (.iload_n 1, 1) := by decide +kernel
theorem dX5_put_8 : decode cX5_put 8 = .ok (.iaload, 1) := by decide +kernel
theorem dX5_put_9 : decode cX5_put 9 = .ok (.ifCond .ne 10, 3) := by decide +kernel
theorem dX5_put_12 : decode cX5_put 12 = .ok (.iload_n 3, 1) := by decide +kernel
theorem dX5_put_13 : decode cX5_put 13 = .ok (.i2b, 1) := by decide +kernel
theorem dX5_put_14 : decode cX5_put 14 = .ok (.istore 4, 2) := by decide +kernel
theorem dX5_put_16 : decode cX5_put 16 = .ok (.goto 17, 3) := by decide +kernel
theorem dX5_put_19 : decode cX5_put 19 = .ok (.aload_n 0, 1) := by decide +kernel
theorem dX5_put_20 : decode cX5_put 20 = .ok (.getfield 9, 3) := by decide +kernel
theorem dX5_put_23 : decode cX5_put 23 = .ok (.iload_n 1, 1) := by decide +kernel
theorem dX5_put_24 : decode cX5_put 24 = .ok (.iaload, 1) := by decide +kernel
theorem dX5_put_25 : decode cX5_put 25 = .ok (.iconst 1, 1) := by decide +kernel
theorem dX5_put_26 : decode cX5_put 26 = .ok (.if_icmp .ne 7, 3) := by decide +kernel
theorem dX5_put_29 : decode cX5_put 29 = .ok (.iload_n 3, 1) := by decide +kernel
theorem dX5_put_30 : decode cX5_put 30 = .ok (.i2s, 1) := by decide +kernel
theorem dX5_put_31 : decode cX5_put 31 = .ok (.istore 4, 2) := by decide +kernel
theorem dX5_put_33 : decode cX5_put 33 = .ok (.aload_n 0, 1) := by decide +kernel
theorem dX5_put_34 : decode cX5_put 34 = .ok (.getfield 16, 3) := by decide +kernel
theorem dX5_put_37 : decode cX5_put 37 = .ok (.aload_n 0, 1) := by decide +kernel
theorem dX5_put_38 : decode cX5_put 38 = .ok (.iload_n 1, 1) := by decide +kernel
theorem dX5_put_39 : decode cX5_put 39 = .ok (.iload_n 2, 1) := by decide +kernel
theorem dX5_put_40 : decode cX5_put 40 = .ok (.invokevirtual 19, 3) := by decide +kernel
theorem dX5_put_43 : decode cX5_put 43 = .ok (.iload 4, 2) := by decide +kernel
theorem dX5_put_45 : decode cX5_put 45 = .ok (.iastore, 1) := by decide +kernel
theorem dX5_put_46 : decode cX5_put 46 = .ok (.iload 4, 2) := by decide +kernel
theorem dX5_put_48 : decode cX5_put 48 = .ok (.ireturn, 1) := by decide +kernel
theorem dX5_hasPlaces_0 : decode cX5_hasPlaces 0 = .ok (.iload_n 2, 1) := by decide +kernel
theorem dX5_hasPlaces_1 : decode cX5_hasPlaces 1 = .ok (.ifCond .lt 33, 3) := by decide +kernel
theorem dX5_hasPlaces_4 : decode cX5_hasPlaces 4 = .ok (.iload_n 3, 1) := by decide +kernel
theorem dX5_hasPlaces_5 : decode cX5_hasPlaces 5 = .ok (.ifCond .lt 29, 3) := by decide +kernel
theorem dX5_hasPlaces_8 : decode cX5_hasPlaces 8 = .ok (.iload_n 2, 1) := by decide +kernel
theorem dX5_hasPlaces_9 : decode cX5_hasPlaces 9 = .ok (.aload_n 0, 1) := by decide +kernel
theorem dX5_hasPlaces_10 : decode cX5_hasPlaces 10 = .ok (.getfield 13, 3) := by decide +kernel
theorem dX5_hasPlaces_13 : decode cX5_hasPlaces 13 = .ok (.iload_n 1, 1) := by decide +kernel
theorem dX5_hasPlaces_14 : decode cX5_hasPlaces 14 = .ok (.iaload, 1) := by decide +kernel
theorem dX5_hasPlaces_15 : decode cX5_hasPlaces 15 = .ok (.if_icmp .gt 19, 3) := by decide +kernel
theorem dX5_hasPlaces_18 : decode cX5_hasPlaces 18 = .ok (.iload_n 3, 1) := by decide +kernel
theorem dX5_hasPlaces_19 : decode cX5_hasPlaces 19 = .ok (.aload_n 0, 1) := by decide +kernel
theorem dX5_hasPlaces_20 : decode cX5_hasPlaces 20 = .ok (.getfield 13, 3) := by decide +kernel
theorem dX5_hasPlaces_23 : decode cX5_hasPlaces 23 = .ok (.iload_n 1, 1) := by decide +kernel
theorem dX5_hasPlaces_24 : decode cX5_hasPlaces 24 = .ok (.iaload, 1) := by decide +kernel
theorem dX5_hasPlaces_25 : decode cX5_hasPlaces 25 = .ok (.iload_n 2, 1) := by decide +kernel
theorem dX5_hasPlaces_26 : decode cX5_hasPlaces 26 = .ok (.isub, 1) := by decide +kernel
theorem dX5_hasPlaces_27 : decode cX5_hasPlaces 27 = .ok (.if_icmp .gt 7, 3) := by decide +kernel
theorem dX5_hasPlaces_30 : decode cX5_hasPlaces 30 = .ok (.iconst 1, 1) := by decide +kernel
theorem dX5_hasPlaces_31 : decode cX5_hasPlaces 31 = .ok (.goto 4, 3) := by decide +kernel
theorem dX5_hasPlaces_34 : decode cX5_hasPlaces 34 = .ok (.iconst 0, 1) := by decide +kernel
theorem dX5_hasPlaces_35 : decode cX5_hasPlaces 35 = .ok (.ireturn, 1) := by decide +kernel
theorem dX5_remove_0 : decode cX5_remove 0 = .ok (.aload_n 0, 1) := by decide +kernel
theorem dX5_remove_1 : decode cX5_remove 1 = .ok (.getfield 13, 3) := by decide +kernel
theorem dX5_remove_4 : decode cX5_remove 4 = .ok (.iload_n 1, 1) := by decide +kernel
theorem dX5_remove_5 : decode cX5_remove 5 = .ok (.iaload, 1) := by decide +kernel
theorem dX5_remove_6 : decode cX5_remove 6 = .ok (.istore_n 2, 1) := by decide +kernel
theorem dX5_remove_7 : decode cX5_remove 7 = .ok (.aload_n 0, 1) := by decide +kernel
theorem dX5_remove_8 : decode cX5_remove 8 = .ok (.getfield 9, 3) := by decide +kernel
theorem dX5_remove_11 : decode cX5_remove 11 = .ok (.iload_n 1, 1) := by decide +kernel
theorem dX5_remove_12 : decode cX5_remove 12 = .ok (.iconst (-1), 1) := by decide +kernel
theorem dX5_remove_13 : decode cX5_remove 13 = .ok (.iastore, 1) := by decide +kernel
theorem dX5_remove_14 : decode cX5_remove 14 = .ok (.aload_n 0, 1) := by decide +kernel
theorem dX5_remove_15 : decode cX5_remove 15 = .ok (.getfield 13, 3) := by decide +kernel
theorem dX5_remove_18 : decode cX5_remove 18 = .ok (.iload_n 1, 1) := by decide +kernel
theorem dX5_remove_19 : decode cX5_remove 19 = .ok (.iconst 0, 1) := by decide +kernel
theorem dX5_remove_20 : decode cX5_remove 20 = .ok (.iastore, 1) := by decide +kernel
theorem dX5_remove_21 : decode cX5_remove 21 = .ok (.iload_n 2, 1) := by decide +kernel
theorem dX5_remove_22 : decode cX5_remove 22 = .ok (.ireturn, 1) := by decide +kernel
set_option maxRecDepth 20000 in
theorem ggX5_present_X5_isMissing : GoodIn wsX5_present wsX5_isMissing := goodIn_r _ [5, 6, 7, 8, 9] (by decide +kernel) (by decide +kernel)
set_option maxRecDepth 20000 in
theorem gX5_present_X5_isMissing : GoodIn wsX5_present (wsV RX5 23 RX5 yX5_isMissing wsX5_isMissing) := goodIn_app (goodIn_of _ (by decide +kernel)) ggX5_present_X5_isMissing
theorem dX5_present_0 : decode cX5_present 0 = .ok (.iconst 0, 1) := by decide +kernel
theorem dX5_present_1 : decode cX5_present 1 = .ok (.istore_n 1, 1) := by decide +kernel
theorem dX5_present_2 : decode cX5_present 2 = .ok (.iconst 0, 1) := by decide +kernel
theorem dX5_present_3 : decode cX5_present 3 = .ok (.istore_n 2, 1) := by decide +kernel
theorem dX5_present_4 : decode cX5_present 4 = .ok (.iload_n 2, 1) := by decide +kernel
theorem dX5_present_5 : decode cX5_present 5 = .ok (.bipush 8, 2) := by decide +kernel
theorem dX5_present_7 : decode cX5_present 7 = .ok (.if_icmp .ge 20, 3) := by decide +kernel
theorem dX5_present_10 : decode cX5_present 10 = .ok (.aload_n 0, 1) := by decide +kernel
theorem dX5_present_11 : decode cX5_present 11 = .ok (.iload_n 2, 1) := by decide +kernel
theorem dX5_present_12 : decode cX5_present 12 = .ok (.invokevirtual 23, 3) := by decide +kernel
theorem dX5_present_15 : decode cX5_present 15 = .ok (.ifCond .ne 6, 3) := by decide +kernel
theorem dX5_present_18 : decode cX5_present 18 = .ok (.iinc 1 1, 3) := by decide +kernel
theorem dX5_present_21 : decode cX5_present 21 = .ok (.iinc 2 1, 3) := by decide +kernel
theorem dX5_present_24 : decode cX5_present 24 = .ok (.goto (-20), 3) := by decide +kernel
theorem dX5_present_27 : decode cX5_present 27 = .ok (.iload_n 1, 1) := by decide +kernel
theorem dX5_present_28 : decode cX5_present 28 = .ok (.ireturn, 1) := by decide +kernel
theorem dX6_init_0 : decode cX6_init 0 = .ok (.aload_n 0, 1) := by decide +kernel
theorem dX6_init_1 : decode cX6_init 1 = .ok (.invokespecial 1, 3) := by decide +kernel
theorem dX6_init_4 : decode cX6_init 4 = .ok (.aload_n 0, 1) := by decide +kernel
theorem dX6_init_5 : decode cX6_init 5 = .ok (.sipush 200, 3) := by decide +kernel
theorem dX6_init_8 : decode cX6_init 8 = .ok (.newarray .byte, 2) := by decide +kernel
theorem dX6_init_10 : decode cX6_init 10 = .ok (.putfield 9, 3) := by decide +kernel
theorem dX6_init_13 : decode cX6_init 13 = .ok (.aload_n 0, 1) := by decide +kernel
theorem dX6_init_14 : decode cX6_init 14 = .ok (.iconst 0, 1) := by decide +kernel
theorem dX6_init_15 : decode cX6_init 15 = .ok (.putfield 13, 3) := by decide +kernel
theorem dX6_init_18 : decode cX6_init 18 = .ok (.return_, 1) := by decide +kernel
theorem dX6_hasRoom_0 : decode cX6_hasRoom 0 = .ok (.iload_n 1, 1) := by decide +kernel
theorem dX6_hasRoom_1 : decode cX6_hasRoom 1 = .ok (.sipush 200, 3) := by decide +kernel
theorem dX6_hasRoom_4 : decode cX6_hasRoom 4 = .ok (.aload_n 0, 1) := by decide +kernel
theorem dX6_hasRoom_5 : decode cX6_hasRoom 5 = .ok (.getfield 13, 3) := by decide +kernel
theorem dX6_hasRoom_8 : decode cX6_hasRoom 8 = .ok (.isub, 1) := by decide +kernel
theorem dX6_hasRoom_9 : decode cX6_hasRoom 9 = .ok (.if_icmp .gt 7, 3) := by decide +kernel
theorem dX6_hasRoom_12 : decode cX6_hasRoom 12 = .ok (.iconst 1, 1) := by decide +kernel
theorem dX6_hasRoom_13 : decode cX6_hasRoom 13 = .ok (.goto 4, 3) := by decide +kernel
theorem dX6_hasRoom_16 : decode cX6_hasRoom 16 = .ok (.iconst 0, 1) := by decide +kernel
theorem dX6_hasRoom_17 : decode cX6_hasRoom 17 = .ok (.ireturn, 1) := by decide +kernel
theorem dX6_add_0 : decode cX6_add 0 = .ok (.iload_n 3, 1) := by decide +kernel
theorem dX6_add_1 : decode cX6_add 1 = .ok (.iconst 1, 1) := by decide +kernel
theorem dX6_add_2 : decode cX6_add 2 = .ok (.isub, 1) := by decide +kernel
theorem dX6_add_3 : decode cX6_add 3 = .ok (.istore 4, 2) := by decide +kernel
theorem dX6_add_5 : decode cX6_add 5 = .ok (.iload 4, 2) := by decide +kernel
theorem dX6_add_7 : decode cX6_add 7 = .ok (.ifCond .lt 37, 3) := by decide +kernel
theorem dX6_add_10 : decode cX6_add 10 = .ok (.aload_n 0, 1) := by decide +kernel
theorem dX6_add_11 : decode cX6_add 11 = .ok (.getfield 9, 3) := by decide +kernel
theorem dX6_add_14 : decode cX6_add 14 = .ok (.aload_n 0, 1) := by decide +kernel
theorem dX6_add_15 : decode cX6_add 15 = .ok (.getfield 13, 3) := by decide +kernel
theorem dX6_add_18 : decode cX6_add 18 = .ok (.lload_n 1, 1) := by decide +kernel
theorem dX6_add_19 : decode cX6_add 19 = .ok (.bipush 8, 2) := by decide +kernel
theorem dX6_add_21 : decode cX6_add 21 = .ok (.iload 4, 2) := by decide +kernel
theorem dX6_add_23 : decode cX6_add 23 = .ok (.imul, 1) := by decide +kernel
theorem dX6_add_24 : decode cX6_add 24 = .ok (.lshr, 1) := by decide +kernel
theorem dX6_add_25 : decode cX6_add 25 = .ok (.l2i, 1) := by decide +kernel
theorem dX6_add_26 : decode cX6_add 26 = .ok (.i2b, 1) := by decide +kernel
theorem dX6_add_27 : decode cX6_add 27 = .ok (.bastore, 1) := by decide +kernel
theorem dX6_add_28 : decode cX6_add 28 = .ok (.aload_n 0, 1) := by decide +kernel
theorem dX6_add_29 : decode cX6_add 29 = .ok (.dup, 1) := by decide +kernel
theorem dX6_add_30 : decode cX6_add 30 = .ok (.getfield 13, 3) := by decide +kernel
theorem dX6_add_33 : decode cX6_add 33 = .ok (.iconst 1, 1) := by decide +kernel
theorem dX6_add_34 : decode cX6_add 34 = .ok (.iadd, 1) := by decide +kernel
theorem dX6_add_35 : decode cX6_add 35 = .ok (.putfield 13, 3) := by decide +kernel
theorem dX6_add_38 : decode cX6_add 38 = .ok (.iinc 4 (-1), 3) := by decide +kernel
theorem dX6_add_41 : decode cX6_add 41 = .ok (.goto (-36), 3) := by decide +kernel
theorem dX6_add_44 : decode cX6_add 44 = .ok (.return_, 1) := by decide +kernel
theorem dX6_at_0 : decode cX6_at 0 = .ok (.iload_n 1, 1) := by decide +kernel
theorem dX6_at_1 : decode cX6_at 1 = .ok (.aload_n 0, 1) := by decide +kernel
theorem dX6_at_2 : decode cX6_at 2 = .ok (.getfield 13, 3) := by decide +kernel
theorem dX6_at_5 : decode cX6_at 5 = .ok (.if_icmp .ge 12, 3) := by decide +kernel
theorem dX6_at_8 : decode cX6_at 8 = .ok (.aload_n 0, 1) := by decide +kernel
theorem dX6_at_9 : decode cX6_at 9 = .ok (.getfield 9, 3) := by decide +kernel
theorem dX6_at_12 : decode cX6_at 12 = .ok (.iload_n 1, 1) := by decide +kernel
theorem dX6_at_13 : decode cX6_at 13 = .ok (.baload, 1) := by decide +kernel
theorem dX6_at_14 : decode cX6_at 14 = .ok (.goto 4, 3) := by decide +kernel
theorem dX6_at_17 : decode cX6_at 17 = .ok (.iconst 0, 1) := by decide +kernel
theorem dX6_at_18 : decode cX6_at 18 = .ok (.ireturn, 1) := by decide +kernel
set_option maxRecDepth 20000 in
theorem ggX7_init_X2_init : GoodIn wsX7_init wsX2_init := goodIn_r _ [15, 16, 2, 3] (by decide +kernel) (by decide +kernel)
set_option maxRecDepth 20000 in
theorem gX7_init_X2_init_n30 : GoodIn wsX7_init (wsX2_init) := ggX7_init_X2_init
theorem dX7_init_0 : decode cX7_init 0 = .ok (.aload_n 0, 1) := by decide +kernel
theorem dX7_init_1 : decode cX7_init 1 = .ok (.invokespecial 3, 3) := by decide +kernel
theorem dX7_init_4 : decode cX7_init 4 = .ok (.aload_n 0, 1) := by decide +kernel
theorem dX7_init_5 : decode cX7_init 5 = .ok (.bipush 8, 2) := by decide +kernel
theorem dX7_init_7 : decode cX7_init 7 = .ok (.newarray .int, 2) := by decide +kernel
theorem dX7_init_9 : decode cX7_init 9 = .ok (.putfield 9, 3) := by decide +kernel
theorem dX7_init_12 : decode cX7_init 12 = .ok (.aload_n 0, 1) := by decide +kernel
theorem dX7_init_13 : decode cX7_init 13 = .ok (.bipush 8, 2) := by decide +kernel
theorem dX7_init_15 : decode cX7_init 15 = .ok (.newarray .int, 2) := by decide +kernel
theorem dX7_init_17 : decode cX7_init 17 = .ok (.putfield 15, 3) := by decide +kernel
theorem dX7_init_20 : decode cX7_init 20 = .ok (.aload_n 0, 1) := by decide +kernel
theorem dX7_init_21 : decode cX7_init 21 = .ok (.iconst 0, 1) := by decide +kernel
theorem dX7_init_22 : decode cX7_init 22 = .ok (.putfield 18, 3) := by decide +kernel
theorem dX7_init_25 : decode cX7_init 25 = .ok (.aload_n 0, 1) := by decide +kernel
theorem dX7_init_26 : decode cX7_init 26 = .ok (.bipush 24, 2) := by decide +kernel
theorem dX7_init_28 : decode cX7_init 28 = .ok (.newarray .int, 2) := by decide +kernel
theorem dX7_init_30 : decode cX7_init 30 = .ok (.putfield 22, 3) := by decide +kernel
theorem dX7_init_33 : decode cX7_init 33 = .ok (.aload_n 0, 1) := by decide +kernel
theorem dX7_init_34 : decode cX7_init 34 = .ok (.bipush 24, 2) := by decide +kernel
theorem dX7_init_36 : decode cX7_init 36 = .ok (.newarray .int, 2) := by decide +kernel
theorem dX7_init_38 : decode cX7_init 38 = .ok (.putfield 25, 3) := by decide +kernel
theorem dX7_init_41 : decode cX7_init 41 = .ok (.aload_n 0, 1) := by decide +kernel
theorem dX7_init_42 : decode cX7_init 42 = .ok (.new 28, 3) := by decide +kernel
theorem dX7_init_45 : decode cX7_init 45 = .ok (.dup, 1) := by decide +kernel
theorem dX7_init_46 : decode cX7_init 46 = .ok (.invokespecial 30, 3) := by decide +kernel
theorem dX7_init_49 : decode cX7_init 49 = .ok (.putfield 31, 3) := by decide +kernel
theorem dX7_init_52 : decode cX7_init 52 = .ok (.return_, 1) := by decide +kernel
theorem dX7_othersOf_0 : decode cX7_othersOf 0 = .ok (.iload_n 0, 1) := by decide +kernel
theorem dX7_othersOf_1 : decode cX7_othersOf 1 = .ok (.bipush 16, 2) := by decide +kernel
theorem dX7_othersOf_3 : decode cX7_othersOf 3 = .ok (.ishr, 1) := by decide +kernel
theorem dX7_othersOf_4 : decode cX7_othersOf 4 = .ok (.ireturn, 1) := by decide +kernel
set_option maxRecDepth 20000 in
theorem ggX7_handIn_X7_shiftOf : GoodIn wsX7_handIn wsX7_shiftOf := goodIn_r _ [4] (by decide +kernel) (by decide +kernel)
set_option maxRecDepth 20000 in
theorem gX7_handIn_X7_shiftOf : GoodIn wsX7_handIn (va_wsS RX7 35 yX7_shiftOf wsX7_shiftOf) := goodIn_app (goodIn_of _ (by decide +kernel)) ggX7_handIn_X7_shiftOf
theorem dX7_handIn_0 : decode cX7_handIn 0 = .ok (.iload_n 0, 1) := by decide +kernel
theorem dX7_handIn_1 : decode cX7_handIn 1 = .ok (.iload_n 1, 1) := by decide +kernel
theorem dX7_handIn_2 : decode cX7_handIn 2 = .ok (.invokestatic 35, 3) := by decide +kernel
theorem dX7_handIn_5 : decode cX7_handIn 5 = .ok (.ishr, 1) := by decide +kernel
theorem dX7_handIn_6 : decode cX7_handIn 6 = .ok (.iconst 3, 1) := by decide +kernel
theorem dX7_handIn_7 : decode cX7_handIn 7 = .ok (.iand, 1) := by decide +kernel
theorem dX7_handIn_8 : decode cX7_handIn 8 = .ok (.ireturn, 1) := by decide +kernel
theorem dX7_shiftOf_0 : decode cX7_shiftOf 0 = .ok (.iconst 2, 1) := by decide +kernel
theorem dX7_shiftOf_1 : decode cX7_shiftOf 1 = .ok (.bipush 7, 2) := by decide +kernel
theorem dX7_shiftOf_3 : decode cX7_shiftOf 3 = .ok (.iload_n 0, 1) := by decide +kernel
theorem dX7_shiftOf_4 : decode cX7_shiftOf 4 = .ok (.isub, 1) := by decide +kernel
theorem dX7_shiftOf_5 : decode cX7_shiftOf 5 = .ok (.imul, 1) := by decide +kernel
theorem dX7_shiftOf_6 : decode cX7_shiftOf 6 = .ok (.ireturn, 1) := by decide +kernel
set_option maxRecDepth 20000 in
theorem ggX7_bestFor_X7_start : GoodIn wsX7_bestFor wsX7_start := goodIn_r _ [12, 1, 13, 14, 3, 2, 15, 16, 17, 18, 19, 20, 21, 22, 23, 24, 11, 25, 26, 27, 28, 29, 30, 74, 75, 76, 77, 78, 79, 80, 81, 82, 83, 84, 85, 86] (by decide +kernel) (by decide +kernel)
set_option maxRecDepth 20000 in
theorem gX7_bestFor_X7_start : GoodIn wsX7_bestFor (wsV RX7 39 RX7 yX7_start wsX7_start) := goodIn_app (goodIn_of _ (by decide +kernel)) ggX7_bestFor_X7_start
set_option maxRecDepth 20000 in
theorem ggX7_bestFor_X7_pairGroups : GoodIn wsX7_bestFor wsX7_pairGroups := goodIn_r _ [34, 35, 2, 13, 15, 1, 3, 36, 37, 38, 11, 39, 16, 40, 41, 42, 43, 4, 5, 6, 7, 44, 45, 46, 47, 48, 49, 50, 51, 52, 53, 54, 55, 56, 57, 58, 59, 60, 61, 62, 63, 64, 65, 66, 67, 68, 69, 70, 71, 72, 73, 74, 75, 76, 77, 78, 79, 80, 81, 82, 83, 84, 85, 86, 87, 88, 89] (by decide +kernel) (by decide +kernel)
set_option maxRecDepth 20000 in
theorem gX7_bestFor_X7_pairGroups : GoodIn wsX7_bestFor (wsV RX7 43 RX7 yX7_pairGroups wsX7_pairGroups) := goodIn_app (goodIn_of _ (by decide +kernel)) ggX7_bestFor_X7_pairGroups
theorem dX7_bestFor_0 : decode cX7_bestFor 0 = .ok (.aload_n 0, 1) := by decide +kernel
theorem dX7_bestFor_1 : decode cX7_bestFor 1 = .ok (.aload_n 1, 1) := by decide +kernel
theorem dX7_bestFor_2 : decode cX7_bestFor 2 = .ok (.invokevirtual 39, 3) := by decide +kernel
theorem dX7_bestFor_5 : decode cX7_bestFor 5 = .ok (.iconst 0, 1) := by decide +kernel
theorem dX7_bestFor_6 : decode cX7_bestFor 6 = .ok (.istore_n 3, 1) := by decide +kernel
theorem dX7_bestFor_7 : decode cX7_bestFor 7 = .ok (.iload_n 3, 1) := by decide +kernel
theorem dX7_bestFor_8 : decode cX7_bestFor 8 = .ok (.bipush 8, 2) := by decide +kernel
theorem dX7_bestFor_10 : decode cX7_bestFor 10 = .ok (.if_icmp .ge 22, 3) := by decide +kernel
theorem dX7_bestFor_13 : decode cX7_bestFor 13 = .ok (.aload_n 0, 1) := by decide +kernel
theorem dX7_bestFor_14 : decode cX7_bestFor 14 = .ok (.getfield 18, 3) := by decide +kernel
theorem dX7_bestFor_17 : decode cX7_bestFor 17 = .ok (.iconst 1, 1) := by decide +kernel
theorem dX7_bestFor_18 : decode cX7_bestFor 18 = .ok (.if_icmp .le 14, 3) := by decide +kernel
theorem dX7_bestFor_21 : decode cX7_bestFor 21 = .ok (.aload_n 0, 1) := by decide +kernel
theorem dX7_bestFor_22 : decode cX7_bestFor 22 = .ok (.aload_n 1, 1) := by decide +kernel
theorem dX7_bestFor_23 : decode cX7_bestFor 23 = .ok (.invokevirtual 43, 3) := by decide +kernel
theorem dX7_bestFor_26 : decode cX7_bestFor 26 = .ok (.iinc 3 1, 3) := by decide +kernel
theorem dX7_bestFor_29 : decode cX7_bestFor 29 = .ok (.goto (-22), 3) := by decide +kernel
theorem dX7_bestFor_32 : decode cX7_bestFor 32 = .ok (.ldc 46, 2) := by decide +kernel
theorem dX7_bestFor_34 : decode cX7_bestFor 34 = .ok (.istore_n 3, 1) := by decide +kernel
theorem dX7_bestFor_35 : decode cX7_bestFor 35 = .ok (.iconst 0, 1) := by decide +kernel
theorem dX7_bestFor_36 : decode cX7_bestFor 36 = .ok (.istore 4, 2) := by decide +kernel
theorem dX7_bestFor_38 : decode cX7_bestFor 38 = .ok (.iload 4, 2) := by decide +kernel
theorem dX7_bestFor_40 : decode cX7_bestFor 40 = .ok (.iconst 3, 1) := by decide +kernel
theorem dX7_bestFor_41 : decode cX7_bestFor 41 = .ok (.if_icmp .ge 25, 3) := by decide +kernel
theorem dX7_bestFor_44 : decode cX7_bestFor 44 = .ok (.iload_n 3, 1) := by decide +kernel
theorem dX7_bestFor_45 : decode cX7_bestFor 45 = .ok (.aload_n 0, 1) := by decide +kernel
theorem dX7_bestFor_46 : decode cX7_bestFor 46 = .ok (.getfield 22, 3) := by decide +kernel
theorem dX7_bestFor_49 : decode cX7_bestFor 49 = .ok (.iload_n 2, 1) := by decide +kernel
theorem dX7_bestFor_50 : decode cX7_bestFor 50 = .ok (.iconst 3, 1) := by decide +kernel
theorem dX7_bestFor_51 : decode cX7_bestFor 51 = .ok (.imul, 1) := by decide +kernel
theorem dX7_bestFor_52 : decode cX7_bestFor 52 = .ok (.iload 4, 2) := by decide +kernel
theorem dX7_bestFor_54 : decode cX7_bestFor 54 = .ok (.iadd, 1) := by decide +kernel
theorem dX7_bestFor_55 : decode cX7_bestFor 55 = .ok (.iaload, 1) := by decide +kernel
theorem dX7_bestFor_56 : decode cX7_bestFor 56 = .ok (.invokestatic 47, 3) := by decide +kernel
theorem dX7_bestFor_59 : decode cX7_bestFor 59 = .ok (.istore_n 3, 1) := by decide +kernel
theorem dX7_bestFor_60 : decode cX7_bestFor 60 = .ok (.iinc 4 1, 3) := by decide +kernel
theorem dX7_bestFor_63 : decode cX7_bestFor 63 = .ok (.goto (-25), 3) := by decide +kernel
theorem dX7_bestFor_66 : decode cX7_bestFor 66 = .ok (.iload_n 3, 1) := by decide +kernel
theorem dX7_bestFor_67 : decode cX7_bestFor 67 = .ok (.ireturn, 1) := by decide +kernel
set_option maxRecDepth 20000 in
theorem ggX7_start_X3_leads : GoodIn wsX7_start wsX3_leads := goodIn_r _ [12, 13, 29, 30, 31, 32, 33, 34, 35] (by decide +kernel) (by decide +kernel)
set_option maxRecDepth 20000 in
theorem gX7_start_X3_leads : GoodIn wsX7_start (wsV RX7 58 RX3 yX3_leads wsX3_leads) := goodIn_app (goodIn_of _ (by decide +kernel)) ggX7_start_X3_leads
set_option maxRecDepth 20000 in
theorem ggX7_start_X7_shiftOf : GoodIn wsX7_start wsX7_shiftOf := goodIn_r _ [17] (by decide +kernel) (by decide +kernel)
set_option maxRecDepth 20000 in
theorem gX7_start_X7_shiftOf : GoodIn wsX7_start (va_wsS RX7 35 yX7_shiftOf wsX7_shiftOf) := goodIn_app (goodIn_of _ (by decide +kernel)) ggX7_start_X7_shiftOf
set_option maxRecDepth 20000 in
theorem ggX7_start_X3_trainOf : GoodIn wsX7_start wsX3_trainOf := goodIn_r _ [21, 22, 13, 29, 30, 31, 32, 33, 34, 35] (by decide +kernel) (by decide +kernel)
set_option maxRecDepth 20000 in
theorem gX7_start_X3_trainOf : GoodIn wsX7_start (wsV RX7 65 RX3 yX3_trainOf wsX3_trainOf) := goodIn_app (goodIn_of _ (by decide +kernel)) ggX7_start_X3_trainOf
theorem dX7_start_0 : decode cX7_start 0 = .ok (.aload_n 0, 1) := by decide +kernel
theorem dX7_start_1 : decode cX7_start 1 = .ok (.iconst 0, 1) := by decide +kernel
theorem dX7_start_2 : decode cX7_start 2 = .ok (.putfield 18, 3) := by decide +kernel
theorem dX7_start_5 : decode cX7_start 5 = .ok (.iconst 0, 1) := by decide +kernel
theorem dX7_start_6 : decode cX7_start 6 = .ok (.istore_n 2, 1) := by decide +kernel
theorem dX7_start_7 : decode cX7_start 7 = .ok (.iload_n 2, 1) := by decide +kernel
theorem dX7_start_8 : decode cX7_start 8 = .ok (.bipush 8, 2) := by decide +kernel
theorem dX7_start_10 : decode cX7_start 10 = .ok (.if_icmp .ge 142, 3) := by decide +kernel
theorem dX7_start_13 : decode cX7_start 13 = .ok (.iload_n 2, 1) := by decide +kernel
theorem dX7_start_14 : decode cX7_start 14 = .ok (.aload_n 1, 1) := by decide +kernel
theorem dX7_start_15 : decode cX7_start 15 = .ok (.getfield 53, 3) := by decide +kernel
theorem dX7_start_18 : decode cX7_start 18 = .ok (.if_icmp .ge 15, 3) := by decide +kernel
theorem dX7_start_21 : decode cX7_start 21 = .ok (.aload_n 1, 1) := by decide +kernel
theorem dX7_start_22 : decode cX7_start 22 = .ok (.iload_n 2, 1) := by decide +kernel
theorem dX7_start_23 : decode cX7_start 23 = .ok (.invokevirtual 58, 3) := by decide +kernel
theorem dX7_start_26 : decode cX7_start 26 = .ok (.ifCond .eq 7, 3) := by decide +kernel
theorem dX7_start_29 : decode cX7_start 29 = .ok (.iconst 1, 1) := by decide +kernel
theorem dX7_start_30 : decode cX7_start 30 = .ok (.goto 4, 3) := by decide +kernel
theorem dX7_start_33 : decode cX7_start 33 = .ok (.iconst 0, 1) := by decide +kernel
theorem dX7_start_34 : decode cX7_start 34 = .ok (.istore_n 3, 1) := by decide +kernel
theorem dX7_start_35 : decode cX7_start 35 = .ok (.iconst 0, 1) := by decide +kernel
theorem dX7_start_36 : decode cX7_start 36 = .ok (.istore 4, 2) := by decide +kernel
theorem dX7_start_38 : decode cX7_start 38 = .ok (.iload 4, 2) := by decide +kernel
theorem dX7_start_40 : decode cX7_start 40 = .ok (.iconst 3, 1) := by decide +kernel
theorem dX7_start_41 : decode cX7_start 41 = .ok (.if_icmp .ge 60, 3) := by decide +kernel
theorem dX7_start_44 : decode cX7_start 44 = .ok (.iload 4, 2) := by decide +kernel
theorem dX7_start_46 : decode cX7_start 46 = .ok (.aload_n 1, 1) := by decide +kernel
theorem dX7_start_47 : decode cX7_start 47 = .ok (.getfield 62, 3) := by decide +kernel
theorem dX7_start_50 : decode cX7_start 50 = .ok (.iload_n 2, 1) := by decide +kernel
theorem dX7_start_51 : decode cX7_start 51 = .ok (.iaload, 1) := by decide +kernel
theorem dX7_start_52 : decode cX7_start 52 = .ok (.if_icmp .ne 7, 3) := by decide +kernel
theorem dX7_start_55 : decode cX7_start 55 = .ok (.iconst 0, 1) := by decide +kernel
theorem dX7_start_56 : decode cX7_start 56 = .ok (.goto 4, 3) := by decide +kernel
theorem dX7_start_59 : decode cX7_start 59 = .ok (.iconst 1, 1) := by decide +kernel
theorem dX7_start_60 : decode cX7_start 60 = .ok (.istore 5, 2) := by decide +kernel
theorem dX7_start_62 : decode cX7_start 62 = .ok (.aload_n 0, 1) := by decide +kernel
theorem dX7_start_63 : decode cX7_start 63 = .ok (.getfield 22, 3) := by decide +kernel
theorem dX7_start_66 : decode cX7_start 66 = .ok (.iload_n 2, 1) := by decide +kernel
theorem dX7_start_67 : decode cX7_start 67 = .ok (.iconst 3, 1) := by decide +kernel
theorem dX7_start_68 : decode cX7_start 68 = .ok (.imul, 1) := by decide +kernel
theorem dX7_start_69 : decode cX7_start 69 = .ok (.iload 4, 2) := by decide +kernel
theorem dX7_start_71 : decode cX7_start 71 = .ok (.iadd, 1) := by decide +kernel
theorem dX7_start_72 : decode cX7_start 72 = .ok (.iload_n 3, 1) := by decide +kernel
theorem dX7_start_73 : decode cX7_start 73 = .ok (.ifCond .eq 19, 3) := by decide +kernel
theorem dX7_start_76 : decode cX7_start 76 = .ok (.iload 5, 2) := by decide +kernel
theorem dX7_start_78 : decode cX7_start 78 = .ok (.bipush 16, 2) := by decide +kernel
theorem dX7_start_80 : decode cX7_start 80 = .ok (.ishl, 1) := by decide +kernel
theorem dX7_start_81 : decode cX7_start 81 = .ok (.iload 4, 2) := by decide +kernel
theorem dX7_start_83 : decode cX7_start 83 = .ok (.iload_n 2, 1) := by decide +kernel
theorem dX7_start_84 : decode cX7_start 84 = .ok (.invokestatic 35, 3) := by decide +kernel
theorem dX7_start_87 : decode cX7_start 87 = .ok (.ishl, 1) := by decide +kernel
theorem dX7_start_88 : decode cX7_start 88 = .ok (.iadd, 1) := by decide +kernel
theorem dX7_start_89 : decode cX7_start 89 = .ok (.goto 5, 3) := by decide +kernel
theorem dX7_start_92 : decode cX7_start 92 = .ok (.ldc 46, 2) := by decide +kernel
theorem dX7_start_94 : decode cX7_start 94 = .ok (.iastore, 1) := by decide +kernel
theorem dX7_start_95 : decode cX7_start 95 = .ok (.iinc 4 1, 3) := by decide +kernel
theorem dX7_start_98 : decode cX7_start 98 = .ok (.goto (-60), 3) := by decide +kernel
theorem dX7_start_101 : decode cX7_start 101 = .ok (.aload_n 0, 1) := by decide +kernel
theorem dX7_start_102 : decode cX7_start 102 = .ok (.getfield 9, 3) := by decide +kernel
theorem dX7_start_105 : decode cX7_start 105 = .ok (.iload_n 2, 1) := by decide +kernel
theorem dX7_start_106 : decode cX7_start 106 = .ok (.iconst (-1), 1) := by decide +kernel
theorem dX7_start_107 : decode cX7_start 107 = .ok (.iastore, 1) := by decide +kernel
theorem dX7_start_108 : decode cX7_start 108 = .ok (.iload_n 3, 1) := by decide +kernel
theorem dX7_start_109 : decode cX7_start 109 = .ok (.ifCond .eq 37, 3) := by decide +kernel
theorem dX7_start_112 : decode cX7_start 112 = .ok (.aload_n 0, 1) := by decide +kernel
theorem dX7_start_113 : decode cX7_start 113 = .ok (.getfield 9, 3) := by decide +kernel
theorem dX7_start_116 : decode cX7_start 116 = .ok (.iload_n 2, 1) := by decide +kernel
theorem dX7_start_117 : decode cX7_start 117 = .ok (.aload_n 0, 1) := by decide +kernel
theorem dX7_start_118 : decode cX7_start 118 = .ok (.getfield 18, 3) := by decide +kernel
theorem dX7_start_121 : decode cX7_start 121 = .ok (.iastore, 1) := by decide +kernel
theorem dX7_start_122 : decode cX7_start 122 = .ok (.aload_n 0, 1) := by decide +kernel
theorem dX7_start_123 : decode cX7_start 123 = .ok (.getfield 15, 3) := by decide +kernel
theorem dX7_start_126 : decode cX7_start 126 = .ok (.aload_n 0, 1) := by decide +kernel
theorem dX7_start_127 : decode cX7_start 127 = .ok (.getfield 18, 3) := by decide +kernel
theorem dX7_start_130 : decode cX7_start 130 = .ok (.aload_n 1, 1) := by decide +kernel
theorem dX7_start_131 : decode cX7_start 131 = .ok (.iload_n 2, 1) := by decide +kernel
theorem dX7_start_132 : decode cX7_start 132 = .ok (.invokevirtual 65, 3) := by decide +kernel
theorem dX7_start_135 : decode cX7_start 135 = .ok (.iastore, 1) := by decide +kernel
theorem dX7_start_136 : decode cX7_start 136 = .ok (.aload_n 0, 1) := by decide +kernel
theorem dX7_start_137 : decode cX7_start 137 = .ok (.dup, 1) := by decide +kernel
theorem dX7_start_138 : decode cX7_start 138 = .ok (.getfield 18, 3) := by decide +kernel
theorem dX7_start_141 : decode cX7_start 141 = .ok (.iconst 1, 1) := by decide +kernel
theorem dX7_start_142 : decode cX7_start 142 = .ok (.iadd, 1) := by decide +kernel
theorem dX7_start_143 : decode cX7_start 143 = .ok (.putfield 18, 3) := by decide +kernel
theorem dX7_start_146 : decode cX7_start 146 = .ok (.iinc 2 1, 3) := by decide +kernel
theorem dX7_start_149 : decode cX7_start 149 = .ok (.goto (-142), 3) := by decide +kernel
theorem dX7_start_152 : decode cX7_start 152 = .ok (.return_, 1) := by decide +kernel
set_option maxRecDepth 20000 in
theorem ggX7_pairGroups_X7_pairPlayers : GoodIn wsX7_pairGroups wsX7_pairPlayers := goodIn_r _ [11, 12, 4, 6, 2, 13, 14, 15, 16, 1, 17, 18, 19, 20, 21, 22, 23, 24, 25, 26, 27, 28, 29, 30, 31, 32, 33, 34, 35, 36, 37, 38, 39, 40, 41, 42, 51, 52, 53, 54, 55, 56, 57, 58, 59, 60, 61, 62, 63, 64, 65, 66] (by decide +kernel) (by decide +kernel)
set_option maxRecDepth 20000 in
theorem gX7_pairGroups_X7_pairPlayers : GoodIn wsX7_pairGroups (wsV RX7 68 RX7 yX7_pairPlayers wsX7_pairPlayers) := goodIn_app (goodIn_of _ (by decide +kernel)) ggX7_pairGroups_X7_pairPlayers
set_option maxRecDepth 20000 in
theorem ggX7_pairGroups_X7_keepWays : GoodIn wsX7_pairGroups wsX7_keepWays := goodIn_r _ [46, 1, 6, 51, 52, 53, 54, 55, 56] (by decide +kernel) (by decide +kernel)
set_option maxRecDepth 20000 in
theorem gX7_pairGroups_X7_keepWays : GoodIn wsX7_pairGroups (wsV RX7 72 RX7 yX7_keepWays wsX7_keepWays) := goodIn_app (goodIn_of _ (by decide +kernel)) ggX7_pairGroups_X7_keepWays
set_option maxRecDepth 20000 in
theorem ggX7_pairGroups_X7_joinGroups : GoodIn wsX7_pairGroups wsX7_joinGroups := goodIn_r _ [50, 5, 12, 3, 4, 51, 52, 53, 54, 55, 56, 57, 58, 59, 60, 61, 62, 63] (by decide +kernel) (by decide +kernel)
set_option maxRecDepth 20000 in
theorem gX7_pairGroups_X7_joinGroups : GoodIn wsX7_pairGroups (wsV RX7 76 RX7 yX7_joinGroups wsX7_joinGroups) := goodIn_app (goodIn_of _ (by decide +kernel)) ggX7_pairGroups_X7_joinGroups
theorem dX7_pairGroups_0 : decode cX7_pairGroups 0 = .ok (.iconst 0, 1) := by decide +kernel
theorem dX7_pairGroups_1 : decode cX7_pairGroups 1 = .ok (.istore_n 2, 1) := by decide +kernel
theorem dX7_pairGroups_2 : decode cX7_pairGroups 2 = .ok (.iload_n 2, 1) := by decide +kernel
theorem dX7_pairGroups_3 : decode cX7_pairGroups 3 = .ok (.bipush 24, 2) := by decide +kernel
theorem dX7_pairGroups_5 : decode cX7_pairGroups 5 = .ok (.if_icmp .ge 17, 3) := by decide +kernel
theorem dX7_pairGroups_8 : decode cX7_pairGroups 8 = .ok (.aload_n 0, 1) := by decide +kernel
theorem dX7_pairGroups_9 : decode cX7_pairGroups 9 = .ok (.getfield 25, 3) := by decide +kernel
theorem dX7_pairGroups_12 : decode cX7_pairGroups 12 = .ok (.iload_n 2, 1) := by decide +kernel
theorem dX7_pairGroups_13 : decode cX7_pairGroups 13 = .ok (.ldc 46, 2) := by decide +kernel
theorem dX7_pairGroups_15 : decode cX7_pairGroups 15 = .ok (.iastore, 1) := by decide +kernel
theorem dX7_pairGroups_16 : decode cX7_pairGroups 16 = .ok (.iinc 2 1, 3) := by decide +kernel
theorem dX7_pairGroups_19 : decode cX7_pairGroups 19 = .ok (.goto (-17), 3) := by decide +kernel
theorem dX7_pairGroups_22 : decode cX7_pairGroups 22 = .ok (.iconst 0, 1) := by decide +kernel
theorem dX7_pairGroups_23 : decode cX7_pairGroups 23 = .ok (.istore_n 2, 1) := by decide +kernel
theorem dX7_pairGroups_24 : decode cX7_pairGroups 24 = .ok (.iload_n 2, 1) := by decide +kernel
theorem dX7_pairGroups_25 : decode cX7_pairGroups 25 = .ok (.aload_n 1, 1) := by decide +kernel
theorem dX7_pairGroups_26 : decode cX7_pairGroups 26 = .ok (.getfield 53, 3) := by decide +kernel
theorem dX7_pairGroups_29 : decode cX7_pairGroups 29 = .ok (.if_icmp .ge 102, 3) := by decide +kernel
theorem dX7_pairGroups_32 : decode cX7_pairGroups 32 = .ok (.iload_n 2, 1) := by decide +kernel
theorem dX7_pairGroups_33 : decode cX7_pairGroups 33 = .ok (.iconst 1, 1) := by decide +kernel
theorem dX7_pairGroups_34 : decode cX7_pairGroups 34 = .ok (.iadd, 1) := by decide +kernel
theorem dX7_pairGroups_35 : decode cX7_pairGroups 35 = .ok (.istore_n 3, 1) := by decide +kernel
theorem dX7_pairGroups_36 : decode cX7_pairGroups 36 = .ok (.iload_n 3, 1) := by decide +kernel
theorem dX7_pairGroups_37 : decode cX7_pairGroups 37 = .ok (.aload_n 1, 1) := by decide +kernel
theorem dX7_pairGroups_38 : decode cX7_pairGroups 38 = .ok (.getfield 53, 3) := by decide +kernel
theorem dX7_pairGroups_41 : decode cX7_pairGroups 41 = .ok (.if_icmp .ge 53, 3) := by decide +kernel
theorem dX7_pairGroups_44 : decode cX7_pairGroups 44 = .ok (.aload_n 0, 1) := by decide +kernel
theorem dX7_pairGroups_45 : decode cX7_pairGroups 45 = .ok (.getfield 9, 3) := by decide +kernel
theorem dX7_pairGroups_48 : decode cX7_pairGroups 48 = .ok (.iload_n 2, 1) := by decide +kernel
theorem dX7_pairGroups_49 : decode cX7_pairGroups 49 = .ok (.iaload, 1) := by decide +kernel
theorem dX7_pairGroups_50 : decode cX7_pairGroups 50 = .ok (.ifCond .lt 38, 3) := by decide +kernel
theorem dX7_pairGroups_53 : decode cX7_pairGroups 53 = .ok (.aload_n 0, 1) := by decide +kernel
theorem dX7_pairGroups_54 : decode cX7_pairGroups 54 = .ok (.getfield 9, 3) := by decide +kernel
theorem dX7_pairGroups_57 : decode cX7_pairGroups 57 = .ok (.iload_n 2, 1) := by decide +kernel
theorem dX7_pairGroups_58 : decode cX7_pairGroups 58 = .ok (.iaload, 1) := by decide +kernel
theorem dX7_pairGroups_59 : decode cX7_pairGroups 59 = .ok (.iconst 2, 1) := by decide +kernel
theorem dX7_pairGroups_60 : decode cX7_pairGroups 60 = .ok (.irem, 1) := by decide +kernel
theorem dX7_pairGroups_61 : decode cX7_pairGroups 61 = .ok (.ifCond .ne 27, 3) := by decide +kernel
theorem dX7_pairGroups_64 : decode cX7_pairGroups 64 = .ok (.aload_n 0, 1) := by decide +kernel
theorem dX7_pairGroups_65 : decode cX7_pairGroups 65 = .ok (.getfield 9, 3) := by decide +kernel
theorem dX7_pairGroups_68 : decode cX7_pairGroups 68 = .ok (.iload_n 3, 1) := by decide +kernel
theorem dX7_pairGroups_69 : decode cX7_pairGroups 69 = .ok (.iaload, 1) := by decide +kernel
theorem dX7_pairGroups_70 : decode cX7_pairGroups 70 = .ok (.aload_n 0, 1) := by decide +kernel
theorem dX7_pairGroups_71 : decode cX7_pairGroups 71 = .ok (.getfield 9, 3) := by decide +kernel
theorem dX7_pairGroups_74 : decode cX7_pairGroups 74 = .ok (.iload_n 2, 1) := by decide +kernel
theorem dX7_pairGroups_75 : decode cX7_pairGroups 75 = .ok (.iaload, 1) := by decide +kernel
theorem dX7_pairGroups_76 : decode cX7_pairGroups 76 = .ok (.iconst 1, 1) := by decide +kernel
theorem dX7_pairGroups_77 : decode cX7_pairGroups 77 = .ok (.iadd, 1) := by decide +kernel
theorem dX7_pairGroups_78 : decode cX7_pairGroups 78 = .ok (.if_icmp .ne 10, 3) := by decide +kernel
theorem dX7_pairGroups_81 : decode cX7_pairGroups 81 = .ok (.aload_n 0, 1) := by decide +kernel
theorem dX7_pairGroups_82 : decode cX7_pairGroups 82 = .ok (.aload_n 1, 1) := by decide +kernel
theorem dX7_pairGroups_83 : decode cX7_pairGroups 83 = .ok (.iload_n 2, 1) := by decide +kernel
theorem dX7_pairGroups_84 : decode cX7_pairGroups 84 = .ok (.iload_n 3, 1) := by decide +kernel
theorem dX7_pairGroups_85 : decode cX7_pairGroups 85 = .ok (.invokevirtual 68, 3) := by decide +kernel
theorem dX7_pairGroups_88 : decode cX7_pairGroups 88 = .ok (.iinc 3 1, 3) := by decide +kernel
theorem dX7_pairGroups_91 : decode cX7_pairGroups 91 = .ok (.goto (-55), 3) := by decide +kernel
theorem dX7_pairGroups_94 : decode cX7_pairGroups 94 = .ok (.aload_n 0, 1) := by decide +kernel
theorem dX7_pairGroups_95 : decode cX7_pairGroups 95 = .ok (.getfield 9, 3) := by decide +kernel
theorem dX7_pairGroups_98 : decode cX7_pairGroups 98 = .ok (.iload_n 2, 1) := by decide +kernel
theorem dX7_pairGroups_99 : decode cX7_pairGroups 99 = .ok (.iaload, 1) := by decide +kernel
theorem dX7_pairGroups_100 : decode cX7_pairGroups 100 = .ok (.aload_n 0, 1) := by decide +kernel
theorem dX7_pairGroups_101 : decode cX7_pairGroups 101 = .ok (.getfield 18, 3) := by decide +kernel
theorem dX7_pairGroups_104 : decode cX7_pairGroups 104 = .ok (.iconst 1, 1) := by decide +kernel
theorem dX7_pairGroups_105 : decode cX7_pairGroups 105 = .ok (.isub, 1) := by decide +kernel
theorem dX7_pairGroups_106 : decode cX7_pairGroups 106 = .ok (.if_icmp .ne 19, 3) := by decide +kernel
theorem dX7_pairGroups_109 : decode cX7_pairGroups 109 = .ok (.aload_n 0, 1) := by decide +kernel
theorem dX7_pairGroups_110 : decode cX7_pairGroups 110 = .ok (.getfield 9, 3) := by decide +kernel
theorem dX7_pairGroups_113 : decode cX7_pairGroups 113 = .ok (.iload_n 2, 1) := by decide +kernel
theorem dX7_pairGroups_114 : decode cX7_pairGroups 114 = .ok (.iaload, 1) := by decide +kernel
theorem dX7_pairGroups_115 : decode cX7_pairGroups 115 = .ok (.iconst 2, 1) := by decide +kernel
theorem dX7_pairGroups_116 : decode cX7_pairGroups 116 = .ok (.irem, 1) := by decide +kernel
theorem dX7_pairGroups_117 : decode cX7_pairGroups 117 = .ok (.ifCond .ne 8, 3) := by decide +kernel
theorem dX7_pairGroups_120 : decode cX7_pairGroups 120 = .ok (.aload_n 0, 1) := by decide +kernel
theorem dX7_pairGroups_121 : decode cX7_pairGroups 121 = .ok (.iload_n 2, 1) := by decide +kernel
theorem dX7_pairGroups_122 : decode cX7_pairGroups 122 = .ok (.invokevirtual 72, 3) := by decide +kernel
theorem dX7_pairGroups_125 : decode cX7_pairGroups 125 = .ok (.iinc 2 1, 3) := by decide +kernel
theorem dX7_pairGroups_128 : decode cX7_pairGroups 128 = .ok (.goto (-104), 3) := by decide +kernel
theorem dX7_pairGroups_131 : decode cX7_pairGroups 131 = .ok (.aload_n 0, 1) := by decide +kernel
theorem dX7_pairGroups_132 : decode cX7_pairGroups 132 = .ok (.getfield 22, 3) := by decide +kernel
theorem dX7_pairGroups_135 : decode cX7_pairGroups 135 = .ok (.astore_n 2, 1) := by decide +kernel
theorem dX7_pairGroups_136 : decode cX7_pairGroups 136 = .ok (.aload_n 0, 1) := by decide +kernel
theorem dX7_pairGroups_137 : decode cX7_pairGroups 137 = .ok (.aload_n 0, 1) := by decide +kernel
theorem dX7_pairGroups_138 : decode cX7_pairGroups 138 = .ok (.getfield 25, 3) := by decide +kernel
theorem dX7_pairGroups_141 : decode cX7_pairGroups 141 = .ok (.putfield 22, 3) := by decide +kernel
theorem dX7_pairGroups_144 : decode cX7_pairGroups 144 = .ok (.aload_n 0, 1) := by decide +kernel
theorem dX7_pairGroups_145 : decode cX7_pairGroups 145 = .ok (.aload_n 2, 1) := by decide +kernel
theorem dX7_pairGroups_146 : decode cX7_pairGroups 146 = .ok (.putfield 25, 3) := by decide +kernel
theorem dX7_pairGroups_149 : decode cX7_pairGroups 149 = .ok (.aload_n 0, 1) := by decide +kernel
theorem dX7_pairGroups_150 : decode cX7_pairGroups 150 = .ok (.aload_n 1, 1) := by decide +kernel
theorem dX7_pairGroups_151 : decode cX7_pairGroups 151 = .ok (.invokevirtual 76, 3) := by decide +kernel
theorem dX7_pairGroups_154 : decode cX7_pairGroups 154 = .ok (.return_, 1) := by decide +kernel
set_option maxRecDepth 20000 in
theorem ggX7_pairPlayers_X2_play : GoodIn wsX7_pairPlayers wsX2_play := goodIn_r _ [18, 19, 20, 21, 22, 23, 24, 25, 26, 17, 27, 49, 50, 51] (by decide +kernel) (by decide +kernel)
set_option maxRecDepth 20000 in
theorem gX7_pairPlayers_X2_play : GoodIn wsX7_pairPlayers (wsV RX7 82 RX2 yX2_play wsX2_play) := goodIn_app (goodIn_of _ (by decide +kernel)) ggX7_pairPlayers_X2_play
set_option maxRecDepth 20000 in
theorem ggX7_pairPlayers_X2_isTie : GoodIn wsX7_pairPlayers wsX2_isTie := goodIn_r _ [31, 19, 20, 49, 50, 51] (by decide +kernel) (by decide +kernel)
set_option maxRecDepth 20000 in
theorem gX7_pairPlayers_X2_isTie : GoodIn wsX7_pairPlayers (wsV RX7 86 RX2 yX2_isTie wsX2_isTie) := goodIn_app (goodIn_of _ (by decide +kernel)) ggX7_pairPlayers_X2_isTie
set_option maxRecDepth 20000 in
theorem ggX7_pairPlayers_X2_firstHasBeaten : GoodIn wsX7_pairPlayers wsX2_firstHasBeaten := goodIn_r _ [35, 19, 20, 22, 23, 24, 49, 50, 51] (by decide +kernel) (by decide +kernel)
set_option maxRecDepth 20000 in
theorem gX7_pairPlayers_X2_firstHasBeaten : GoodIn wsX7_pairPlayers (wsV RX7 90 RX2 yX2_firstHasBeaten wsX2_firstHasBeaten) := goodIn_app (goodIn_of _ (by decide +kernel)) ggX7_pairPlayers_X2_firstHasBeaten
theorem dX7_pairPlayers_0 : decode cX7_pairPlayers 0 = .ok (.aload_n 0, 1) := by decide +kernel
theorem dX7_pairPlayers_1 : decode cX7_pairPlayers 1 = .ok (.getfield 15, 3) := by decide +kernel
theorem dX7_pairPlayers_4 : decode cX7_pairPlayers 4 = .ok (.aload_n 0, 1) := by decide +kernel
theorem dX7_pairPlayers_5 : decode cX7_pairPlayers 5 = .ok (.getfield 9, 3) := by decide +kernel
theorem dX7_pairPlayers_8 : decode cX7_pairPlayers 8 = .ok (.iload_n 3, 1) := by decide +kernel
theorem dX7_pairPlayers_9 : decode cX7_pairPlayers 9 = .ok (.iaload, 1) := by decide +kernel
theorem dX7_pairPlayers_10 : decode cX7_pairPlayers 10 = .ok (.iaload, 1) := by decide +kernel
theorem dX7_pairPlayers_11 : decode cX7_pairPlayers 11 = .ok (.aload_n 0, 1) := by decide +kernel
theorem dX7_pairPlayers_12 : decode cX7_pairPlayers 12 = .ok (.getfield 15, 3) := by decide +kernel
theorem dX7_pairPlayers_15 : decode cX7_pairPlayers 15 = .ok (.aload_n 0, 1) := by decide +kernel
theorem dX7_pairPlayers_16 : decode cX7_pairPlayers 16 = .ok (.getfield 9, 3) := by decide +kernel
theorem dX7_pairPlayers_19 : decode cX7_pairPlayers 19 = .ok (.iload_n 2, 1) := by decide +kernel
theorem dX7_pairPlayers_20 : decode cX7_pairPlayers 20 = .ok (.iaload, 1) := by decide +kernel
theorem dX7_pairPlayers_21 : decode cX7_pairPlayers 21 = .ok (.iaload, 1) := by decide +kernel
theorem dX7_pairPlayers_22 : decode cX7_pairPlayers 22 = .ok (.if_icmp .le 7, 3) := by decide +kernel
theorem dX7_pairPlayers_25 : decode cX7_pairPlayers 25 = .ok (.iconst 1, 1) := by decide +kernel
theorem dX7_pairPlayers_26 : decode cX7_pairPlayers 26 = .ok (.goto 4, 3) := by decide +kernel
theorem dX7_pairPlayers_29 : decode cX7_pairPlayers 29 = .ok (.iconst 0, 1) := by decide +kernel
theorem dX7_pairPlayers_30 : decode cX7_pairPlayers 30 = .ok (.istore 4, 2) := by decide +kernel
theorem dX7_pairPlayers_32 : decode cX7_pairPlayers 32 = .ok (.iconst 0, 1) := by decide +kernel
theorem dX7_pairPlayers_33 : decode cX7_pairPlayers 33 = .ok (.istore 5, 2) := by decide +kernel
theorem dX7_pairPlayers_35 : decode cX7_pairPlayers 35 = .ok (.iload 5, 2) := by decide +kernel
theorem dX7_pairPlayers_37 : decode cX7_pairPlayers 37 = .ok (.iconst 3, 1) := by decide +kernel
theorem dX7_pairPlayers_38 : decode cX7_pairPlayers 38 = .ok (.if_icmp .ge 173, 3) := by decide +kernel
theorem dX7_pairPlayers_41 : decode cX7_pairPlayers 41 = .ok (.iconst 0, 1) := by decide +kernel
theorem dX7_pairPlayers_42 : decode cX7_pairPlayers 42 = .ok (.istore 6, 2) := by decide +kernel
theorem dX7_pairPlayers_44 : decode cX7_pairPlayers 44 = .ok (.iload 6, 2) := by decide +kernel
theorem dX7_pairPlayers_46 : decode cX7_pairPlayers 46 = .ok (.iconst 3, 1) := by decide +kernel
theorem dX7_pairPlayers_47 : decode cX7_pairPlayers 47 = .ok (.if_icmp .ge 158, 3) := by decide +kernel
theorem dX7_pairPlayers_50 : decode cX7_pairPlayers 50 = .ok (.aload_n 0, 1) := by decide +kernel
theorem dX7_pairPlayers_51 : decode cX7_pairPlayers 51 = .ok (.getfield 22, 3) := by decide +kernel
theorem dX7_pairPlayers_54 : decode cX7_pairPlayers 54 = .ok (.iload_n 2, 1) := by decide +kernel
theorem dX7_pairPlayers_55 : decode cX7_pairPlayers 55 = .ok (.iconst 3, 1) := by decide +kernel
theorem dX7_pairPlayers_56 : decode cX7_pairPlayers 56 = .ok (.imul, 1) := by decide +kernel
theorem dX7_pairPlayers_57 : decode cX7_pairPlayers 57 = .ok (.iload 5, 2) := by decide +kernel
theorem dX7_pairPlayers_59 : decode cX7_pairPlayers 59 = .ok (.iadd, 1) := by decide +kernel
theorem dX7_pairPlayers_60 : decode cX7_pairPlayers 60 = .ok (.iaload, 1) := by decide +kernel
theorem dX7_pairPlayers_61 : decode cX7_pairPlayers 61 = .ok (.istore 7, 2) := by decide +kernel
theorem dX7_pairPlayers_63 : decode cX7_pairPlayers 63 = .ok (.aload_n 0, 1) := by decide +kernel
theorem dX7_pairPlayers_64 : decode cX7_pairPlayers 64 = .ok (.getfield 22, 3) := by decide +kernel
theorem dX7_pairPlayers_67 : decode cX7_pairPlayers 67 = .ok (.iload_n 3, 1) := by decide +kernel
theorem dX7_pairPlayers_68 : decode cX7_pairPlayers 68 = .ok (.iconst 3, 1) := by decide +kernel
theorem dX7_pairPlayers_69 : decode cX7_pairPlayers 69 = .ok (.imul, 1) := by decide +kernel
theorem dX7_pairPlayers_70 : decode cX7_pairPlayers 70 = .ok (.iload 6, 2) := by decide +kernel
theorem dX7_pairPlayers_72 : decode cX7_pairPlayers 72 = .ok (.iadd, 1) := by decide +kernel
theorem dX7_pairPlayers_73 : decode cX7_pairPlayers 73 = .ok (.iaload, 1) := by decide +kernel
theorem dX7_pairPlayers_74 : decode cX7_pairPlayers 74 = .ok (.istore 8, 2) := by decide +kernel
theorem dX7_pairPlayers_76 : decode cX7_pairPlayers 76 = .ok (.iload 7, 2) := by decide +kernel
theorem dX7_pairPlayers_78 : decode cX7_pairPlayers 78 = .ok (.ldc 46, 2) := by decide +kernel
theorem dX7_pairPlayers_80 : decode cX7_pairPlayers 80 = .ok (.if_icmp .eq 119, 3) := by decide +kernel
theorem dX7_pairPlayers_83 : decode cX7_pairPlayers 83 = .ok (.iload 8, 2) := by decide +kernel
theorem dX7_pairPlayers_85 : decode cX7_pairPlayers 85 = .ok (.ldc 46, 2) := by decide +kernel
theorem dX7_pairPlayers_87 : decode cX7_pairPlayers 87 = .ok (.if_icmp .eq 112, 3) := by decide +kernel
theorem dX7_pairPlayers_90 : decode cX7_pairPlayers 90 = .ok (.aload_n 0, 1) := by decide +kernel
theorem dX7_pairPlayers_91 : decode cX7_pairPlayers 91 = .ok (.getfield 31, 3) := by decide +kernel
theorem dX7_pairPlayers_94 : decode cX7_pairPlayers 94 = .ok (.aload_n 1, 1) := by decide +kernel
theorem dX7_pairPlayers_95 : decode cX7_pairPlayers 95 = .ok (.getfield 79, 3) := by decide +kernel
theorem dX7_pairPlayers_98 : decode cX7_pairPlayers 98 = .ok (.iload_n 2, 1) := by decide +kernel
theorem dX7_pairPlayers_99 : decode cX7_pairPlayers 99 = .ok (.iaload, 1) := by decide +kernel
theorem dX7_pairPlayers_100 : decode cX7_pairPlayers 100 = .ok (.iload 5, 2) := by decide +kernel
theorem dX7_pairPlayers_102 : decode cX7_pairPlayers 102 = .ok (.aload_n 1, 1) := by decide +kernel
theorem dX7_pairPlayers_103 : decode cX7_pairPlayers 103 = .ok (.getfield 79, 3) := by decide +kernel
theorem dX7_pairPlayers_106 : decode cX7_pairPlayers 106 = .ok (.iload_n 3, 1) := by decide +kernel
theorem dX7_pairPlayers_107 : decode cX7_pairPlayers 107 = .ok (.iaload, 1) := by decide +kernel
theorem dX7_pairPlayers_108 : decode cX7_pairPlayers 108 = .ok (.iload 6, 2) := by decide +kernel
theorem dX7_pairPlayers_110 : decode cX7_pairPlayers 110 = .ok (.invokevirtual 82, 3) := by decide +kernel
theorem dX7_pairPlayers_113 : decode cX7_pairPlayers 113 = .ok (.aload_n 0, 1) := by decide +kernel
theorem dX7_pairPlayers_114 : decode cX7_pairPlayers 114 = .ok (.getfield 31, 3) := by decide +kernel
theorem dX7_pairPlayers_117 : decode cX7_pairPlayers 117 = .ok (.invokevirtual 86, 3) := by decide +kernel
theorem dX7_pairPlayers_120 : decode cX7_pairPlayers 120 = .ok (.ifCond .eq 8, 3) := by decide +kernel
theorem dX7_pairPlayers_123 : decode cX7_pairPlayers 123 = .ok (.iload 4, 2) := by decide +kernel
theorem dX7_pairPlayers_125 : decode cX7_pairPlayers 125 = .ok (.goto 18, 3) := by decide +kernel
theorem dX7_pairPlayers_128 : decode cX7_pairPlayers 128 = .ok (.aload_n 0, 1) := by decide +kernel
theorem dX7_pairPlayers_129 : decode cX7_pairPlayers 129 = .ok (.getfield 31, 3) := by decide +kernel
theorem dX7_pairPlayers_132 : decode cX7_pairPlayers 132 = .ok (.invokevirtual 90, 3) := by decide +kernel
theorem dX7_pairPlayers_135 : decode cX7_pairPlayers 135 = .ok (.ifCond .ne 7, 3) := by decide +kernel
theorem dX7_pairPlayers_138 : decode cX7_pairPlayers 138 = .ok (.iconst 1, 1) := by decide +kernel
theorem dX7_pairPlayers_139 : decode cX7_pairPlayers 139 = .ok (.goto 4, 3) := by decide +kernel
theorem dX7_pairPlayers_142 : decode cX7_pairPlayers 142 = .ok (.iconst 0, 1) := by decide +kernel
theorem dX7_pairPlayers_143 : decode cX7_pairPlayers 143 = .ok (.istore 9, 2) := by decide +kernel
theorem dX7_pairPlayers_145 : decode cX7_pairPlayers 145 = .ok (.iload 9, 2) := by decide +kernel
theorem dX7_pairPlayers_147 : decode cX7_pairPlayers 147 = .ok (.ifCond .eq 17, 3) := by decide +kernel
theorem dX7_pairPlayers_150 : decode cX7_pairPlayers 150 = .ok (.iload_n 3, 1) := by decide +kernel
theorem dX7_pairPlayers_151 : decode cX7_pairPlayers 151 = .ok (.iconst 3, 1) := by decide +kernel
theorem dX7_pairPlayers_152 : decode cX7_pairPlayers 152 = .ok (.imul, 1) := by decide +kernel
theorem dX7_pairPlayers_153 : decode cX7_pairPlayers 153 = .ok (.aload_n 0, 1) := by decide +kernel
theorem dX7_pairPlayers_154 : decode cX7_pairPlayers 154 = .ok (.getfield 31, 3) := by decide +kernel
theorem dX7_pairPlayers_157 : decode cX7_pairPlayers 157 = .ok (.getfield 93, 3) := by decide +kernel
theorem dX7_pairPlayers_160 : decode cX7_pairPlayers 160 = .ok (.iadd, 1) := by decide +kernel
theorem dX7_pairPlayers_161 : decode cX7_pairPlayers 161 = .ok (.goto 14, 3) := by decide +kernel
theorem dX7_pairPlayers_164 : decode cX7_pairPlayers 164 = .ok (.iload_n 2, 1) := by decide +kernel
theorem dX7_pairPlayers_165 : decode cX7_pairPlayers 165 = .ok (.iconst 3, 1) := by decide +kernel
theorem dX7_pairPlayers_166 : decode cX7_pairPlayers 166 = .ok (.imul, 1) := by decide +kernel
theorem dX7_pairPlayers_167 : decode cX7_pairPlayers 167 = .ok (.aload_n 0, 1) := by decide +kernel
theorem dX7_pairPlayers_168 : decode cX7_pairPlayers 168 = .ok (.getfield 31, 3) := by decide +kernel
theorem dX7_pairPlayers_171 : decode cX7_pairPlayers 171 = .ok (.getfield 96, 3) := by decide +kernel
theorem dX7_pairPlayers_174 : decode cX7_pairPlayers 174 = .ok (.iadd, 1) := by decide +kernel
theorem dX7_pairPlayers_175 : decode cX7_pairPlayers 175 = .ok (.istore 10, 2) := by decide +kernel
theorem dX7_pairPlayers_177 : decode cX7_pairPlayers 177 = .ok (.aload_n 0, 1) := by decide +kernel
theorem dX7_pairPlayers_178 : decode cX7_pairPlayers 178 = .ok (.getfield 25, 3) := by decide +kernel
theorem dX7_pairPlayers_181 : decode cX7_pairPlayers 181 = .ok (.iload 10, 2) := by decide +kernel
theorem dX7_pairPlayers_183 : decode cX7_pairPlayers 183 = .ok (.aload_n 0, 1) := by decide +kernel
theorem dX7_pairPlayers_184 : decode cX7_pairPlayers 184 = .ok (.getfield 25, 3) := by decide +kernel
theorem dX7_pairPlayers_187 : decode cX7_pairPlayers 187 = .ok (.iload 10, 2) := by decide +kernel
theorem dX7_pairPlayers_189 : decode cX7_pairPlayers 189 = .ok (.iaload, 1) := by decide +kernel
theorem dX7_pairPlayers_190 : decode cX7_pairPlayers 190 = .ok (.iload 7, 2) := by decide +kernel
theorem dX7_pairPlayers_192 : decode cX7_pairPlayers 192 = .ok (.iload 8, 2) := by decide +kernel
theorem dX7_pairPlayers_194 : decode cX7_pairPlayers 194 = .ok (.iadd, 1) := by decide +kernel
theorem dX7_pairPlayers_195 : decode cX7_pairPlayers 195 = .ok (.invokestatic 47, 3) := by decide +kernel
theorem dX7_pairPlayers_198 : decode cX7_pairPlayers 198 = .ok (.iastore, 1) := by decide +kernel
theorem dX7_pairPlayers_199 : decode cX7_pairPlayers 199 = .ok (.iinc 6 1, 3) := by decide +kernel
theorem dX7_pairPlayers_202 : decode cX7_pairPlayers 202 = .ok (.goto (-158), 3) := by decide +kernel
theorem dX7_pairPlayers_205 : decode cX7_pairPlayers 205 = .ok (.iinc 5 1, 3) := by decide +kernel
theorem dX7_pairPlayers_208 : decode cX7_pairPlayers 208 = .ok (.goto (-173), 3) := by decide +kernel
theorem dX7_pairPlayers_211 : decode cX7_pairPlayers 211 = .ok (.return_, 1) := by decide +kernel
theorem dX7_keepWays_0 : decode cX7_keepWays 0 = .ok (.iconst 0, 1) := by decide +kernel
theorem dX7_keepWays_1 : decode cX7_keepWays 1 = .ok (.istore_n 2, 1) := by decide +kernel
theorem dX7_keepWays_2 : decode cX7_keepWays 2 = .ok (.iload_n 2, 1) := by decide +kernel
theorem dX7_keepWays_3 : decode cX7_keepWays 3 = .ok (.iconst 3, 1) := by decide +kernel
theorem dX7_keepWays_4 : decode cX7_keepWays 4 = .ok (.if_icmp .ge 29, 3) := by decide +kernel
theorem dX7_keepWays_7 : decode cX7_keepWays 7 = .ok (.aload_n 0, 1) := by decide +kernel
theorem dX7_keepWays_8 : decode cX7_keepWays 8 = .ok (.getfield 25, 3) := by decide +kernel
theorem dX7_keepWays_11 : decode cX7_keepWays 11 = .ok (.iload_n 1, 1) := by decide +kernel
theorem dX7_keepWays_12 : decode cX7_keepWays 12 = .ok (.iconst 3, 1) := by decide +kernel
theorem dX7_keepWays_13 : decode cX7_keepWays 13 = .ok (.imul, 1) := by decide +kernel
theorem dX7_keepWays_14 : decode cX7_keepWays 14 = .ok (.iload_n 2, 1) := by decide +kernel
theorem dX7_keepWays_15 : decode cX7_keepWays 15 = .ok (.iadd, 1) := by decide +kernel
theorem dX7_keepWays_16 : decode cX7_keepWays 16 = .ok (.aload_n 0, 1) := by decide +kernel
theorem dX7_keepWays_17 : decode cX7_keepWays 17 = .ok (.getfield 22, 3) := by decide +kernel
theorem dX7_keepWays_20 : decode cX7_keepWays 20 = .ok (.iload_n 1, 1) := by decide +kernel
theorem dX7_keepWays_21 : decode cX7_keepWays 21 = .ok (.iconst 3, 1) := by decide +kernel
theorem dX7_keepWays_22 : decode cX7_keepWays 22 = .ok (.imul, 1) := by decide +kernel
theorem dX7_keepWays_23 : decode cX7_keepWays 23 = .ok (.iload_n 2, 1) := by decide +kernel
theorem dX7_keepWays_24 : decode cX7_keepWays 24 = .ok (.iadd, 1) := by decide +kernel
theorem dX7_keepWays_25 : decode cX7_keepWays 25 = .ok (.iaload, 1) := by decide +kernel
theorem dX7_keepWays_26 : decode cX7_keepWays 26 = .ok (.iastore, 1) := by decide +kernel
theorem dX7_keepWays_27 : decode cX7_keepWays 27 = .ok (.iinc 2 1, 3) := by decide +kernel
theorem dX7_keepWays_30 : decode cX7_keepWays 30 = .ok (.goto (-28), 3) := by decide +kernel
theorem dX7_keepWays_33 : decode cX7_keepWays 33 = .ok (.return_, 1) := by decide +kernel
theorem dX7_joinGroups_0 : decode cX7_joinGroups 0 = .ok (.aload_n 0, 1) := by decide +kernel
theorem dX7_joinGroups_1 : decode cX7_joinGroups 1 = .ok (.getfield 18, 3) := by decide +kernel
theorem dX7_joinGroups_4 : decode cX7_joinGroups 4 = .ok (.iconst 1, 1) := by decide +kernel
theorem dX7_joinGroups_5 : decode cX7_joinGroups 5 = .ok (.iadd, 1) := by decide +kernel
theorem dX7_joinGroups_6 : decode cX7_joinGroups 6 = .ok (.iconst 2, 1) := by decide +kernel
theorem dX7_joinGroups_7 : decode cX7_joinGroups 7 = .ok (.idiv, 1) := by decide +kernel
theorem dX7_joinGroups_8 : decode cX7_joinGroups 8 = .ok (.istore_n 2, 1) := by decide +kernel
theorem dX7_joinGroups_9 : decode cX7_joinGroups 9 = .ok (.iconst 0, 1) := by decide +kernel
theorem dX7_joinGroups_10 : decode cX7_joinGroups 10 = .ok (.istore_n 3, 1) := by decide +kernel
theorem dX7_joinGroups_11 : decode cX7_joinGroups 11 = .ok (.iload_n 3, 1) := by decide +kernel
theorem dX7_joinGroups_12 : decode cX7_joinGroups 12 = .ok (.iload_n 2, 1) := by decide +kernel
theorem dX7_joinGroups_13 : decode cX7_joinGroups 13 = .ok (.if_icmp .ge 54, 3) := by decide +kernel
theorem dX7_joinGroups_16 : decode cX7_joinGroups 16 = .ok (.aload_n 0, 1) := by decide +kernel
theorem dX7_joinGroups_17 : decode cX7_joinGroups 17 = .ok (.getfield 15, 3) := by decide +kernel
theorem dX7_joinGroups_20 : decode cX7_joinGroups 20 = .ok (.iconst 2, 1) := by decide +kernel
theorem dX7_joinGroups_21 : decode cX7_joinGroups 21 = .ok (.iload_n 3, 1) := by decide +kernel
theorem dX7_joinGroups_22 : decode cX7_joinGroups 22 = .ok (.imul, 1) := by decide +kernel
theorem dX7_joinGroups_23 : decode cX7_joinGroups 23 = .ok (.iaload, 1) := by decide +kernel
theorem dX7_joinGroups_24 : decode cX7_joinGroups 24 = .ok (.istore 4, 2) := by decide +kernel
theorem dX7_joinGroups_26 : decode cX7_joinGroups 26 = .ok (.iconst 2, 1) := by decide +kernel
theorem dX7_joinGroups_27 : decode cX7_joinGroups 27 = .ok (.iload_n 3, 1) := by decide +kernel
theorem dX7_joinGroups_28 : decode cX7_joinGroups 28 = .ok (.imul, 1) := by decide +kernel
theorem dX7_joinGroups_29 : decode cX7_joinGroups 29 = .ok (.iconst 1, 1) := by decide +kernel
theorem dX7_joinGroups_30 : decode cX7_joinGroups 30 = .ok (.iadd, 1) := by decide +kernel
theorem dX7_joinGroups_31 : decode cX7_joinGroups 31 = .ok (.aload_n 0, 1) := by decide +kernel
theorem dX7_joinGroups_32 : decode cX7_joinGroups 32 = .ok (.getfield 18, 3) := by decide +kernel
theorem dX7_joinGroups_35 : decode cX7_joinGroups 35 = .ok (.if_icmp .ge 18, 3) := by decide +kernel
theorem dX7_joinGroups_38 : decode cX7_joinGroups 38 = .ok (.iload 4, 2) := by decide +kernel
theorem dX7_joinGroups_40 : decode cX7_joinGroups 40 = .ok (.aload_n 0, 1) := by decide +kernel
theorem dX7_joinGroups_41 : decode cX7_joinGroups 41 = .ok (.getfield 15, 3) := by decide +kernel
theorem dX7_joinGroups_44 : decode cX7_joinGroups 44 = .ok (.iconst 2, 1) := by decide +kernel
theorem dX7_joinGroups_45 : decode cX7_joinGroups 45 = .ok (.iload_n 3, 1) := by decide +kernel
theorem dX7_joinGroups_46 : decode cX7_joinGroups 46 = .ok (.imul, 1) := by decide +kernel
theorem dX7_joinGroups_47 : decode cX7_joinGroups 47 = .ok (.iconst 1, 1) := by decide +kernel
theorem dX7_joinGroups_48 : decode cX7_joinGroups 48 = .ok (.iadd, 1) := by decide +kernel
theorem dX7_joinGroups_49 : decode cX7_joinGroups 49 = .ok (.iaload, 1) := by decide +kernel
theorem dX7_joinGroups_50 : decode cX7_joinGroups 50 = .ok (.iadd, 1) := by decide +kernel
theorem dX7_joinGroups_51 : decode cX7_joinGroups 51 = .ok (.istore 4, 2) := by decide +kernel
theorem dX7_joinGroups_53 : decode cX7_joinGroups 53 = .ok (.aload_n 0, 1) := by decide +kernel
theorem dX7_joinGroups_54 : decode cX7_joinGroups 54 = .ok (.getfield 15, 3) := by decide +kernel
theorem dX7_joinGroups_57 : decode cX7_joinGroups 57 = .ok (.iload_n 3, 1) := by decide +kernel
theorem dX7_joinGroups_58 : decode cX7_joinGroups 58 = .ok (.iload 4, 2) := by decide +kernel
theorem dX7_joinGroups_60 : decode cX7_joinGroups 60 = .ok (.iastore, 1) := by decide +kernel
theorem dX7_joinGroups_61 : decode cX7_joinGroups 61 = .ok (.iinc 3 1, 3) := by decide +kernel
theorem dX7_joinGroups_64 : decode cX7_joinGroups 64 = .ok (.goto (-53), 3) := by decide +kernel
theorem dX7_joinGroups_67 : decode cX7_joinGroups 67 = .ok (.iconst 0, 1) := by decide +kernel
theorem dX7_joinGroups_68 : decode cX7_joinGroups 68 = .ok (.istore_n 3, 1) := by decide +kernel
theorem dX7_joinGroups_69 : decode cX7_joinGroups 69 = .ok (.iload_n 3, 1) := by decide +kernel
theorem dX7_joinGroups_70 : decode cX7_joinGroups 70 = .ok (.aload_n 1, 1) := by decide +kernel
theorem dX7_joinGroups_71 : decode cX7_joinGroups 71 = .ok (.getfield 53, 3) := by decide +kernel
theorem dX7_joinGroups_74 : decode cX7_joinGroups 74 = .ok (.if_icmp .ge 28, 3) := by decide +kernel
theorem dX7_joinGroups_77 : decode cX7_joinGroups 77 = .ok (.aload_n 0, 1) := by decide +kernel
theorem dX7_joinGroups_78 : decode cX7_joinGroups 78 = .ok (.getfield 9, 3) := by decide +kernel
theorem dX7_joinGroups_81 : decode cX7_joinGroups 81 = .ok (.iload_n 3, 1) := by decide +kernel
theorem dX7_joinGroups_82 : decode cX7_joinGroups 82 = .ok (.iaload, 1) := by decide +kernel
theorem dX7_joinGroups_83 : decode cX7_joinGroups 83 = .ok (.ifCond .lt 13, 3) := by decide +kernel
theorem dX7_joinGroups_86 : decode cX7_joinGroups 86 = .ok (.aload_n 0, 1) := by decide +kernel
theorem dX7_joinGroups_87 : decode cX7_joinGroups 87 = .ok (.getfield 9, 3) := by decide +kernel
theorem dX7_joinGroups_90 : decode cX7_joinGroups 90 = .ok (.iload_n 3, 1) := by decide +kernel
theorem dX7_joinGroups_91 : decode cX7_joinGroups 91 = .ok (.dup2, 1) := by decide +kernel
theorem dX7_joinGroups_92 : decode cX7_joinGroups 92 = .ok (.iaload, 1) := by decide +kernel
theorem dX7_joinGroups_93 : decode cX7_joinGroups 93 = .ok (.iconst 2, 1) := by decide +kernel
theorem dX7_joinGroups_94 : decode cX7_joinGroups 94 = .ok (.idiv, 1) := by decide +kernel
theorem dX7_joinGroups_95 : decode cX7_joinGroups 95 = .ok (.iastore, 1) := by decide +kernel
theorem dX7_joinGroups_96 : decode cX7_joinGroups 96 = .ok (.iinc 3 1, 3) := by decide +kernel
theorem dX7_joinGroups_99 : decode cX7_joinGroups 99 = .ok (.goto (-30), 3) := by decide +kernel
theorem dX7_joinGroups_102 : decode cX7_joinGroups 102 = .ok (.aload_n 0, 1) := by decide +kernel
theorem dX7_joinGroups_103 : decode cX7_joinGroups 103 = .ok (.iload_n 2, 1) := by decide +kernel
theorem dX7_joinGroups_104 : decode cX7_joinGroups 104 = .ok (.putfield 18, 3) := by decide +kernel
theorem dX7_joinGroups_107 : decode cX7_joinGroups 107 = .ok (.return_, 1) := by decide +kernel
