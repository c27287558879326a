theorem dX0_init_0 : decode cX0_init 0 = .ok (.aload_n 0, 1) := by decide +kernel
theorem dX0_init_1 : decode cX0_init 1 = .ok (.invokespecial 1, 3) := by decide +kernel
theorem dX0_init_4 : decode cX0_init 4 = .ok (.aload_n 0, 1) := by decide +kernel
theorem dX0_init_5 : decode cX0_init 5 = .ok (.sipush 648, 3) := by decide +kernel
theorem dX0_init_8 : decode cX0_init 8 = .ok (.newarray .int, 2) := by decide +kernel
theorem dX0_init_10 : decode cX0_init 10 = .ok (.putfield 11, 3) := by decide +kernel
theorem dX0_init_13 : decode cX0_init 13 = .ok (.aload_n 0, 1) := by decide +kernel
theorem dX0_init_14 : decode cX0_init 14 = .ok (.iconst 0, 1) := by decide +kernel
theorem dX0_init_15 : decode cX0_init 15 = .ok (.putfield 15, 3) := by decide +kernel
theorem dX0_init_18 : decode cX0_init 18 = .ok (.aload_n 0, 1) := by decide +kernel
theorem dX0_init_19 : decode cX0_init 19 = .ok (.iconst 0, 1) := by decide +kernel
theorem dX0_init_20 : decode cX0_init 20 = .ok (.putfield 19, 3) := by decide +kernel
theorem dX0_init_23 : decode cX0_init 23 = .ok (.return_, 1) := by decide +kernel
theorem dX0_forget_0 : decode cX0_forget 0 = .ok (.aload_n 0, 1) := by decide +kernel
theorem dX0_forget_1 : decode cX0_forget 1 = .ok (.iconst 0, 1) := by decide +kernel
theorem dX0_forget_2 : decode cX0_forget 2 = .ok (.putfield 15, 3) := by decide +kernel
theorem dX0_forget_5 : decode cX0_forget 5 = .ok (.return_, 1) := by decide +kernel
set_option maxRecDepth 20000 in
theorem ggX0_keep_X3_save : GoodIn wsX0_keep wsX3_save := goodIn_r _ [12, 13, 14, 15, 16, 17, 18, 22, 23, 24, 25, 26, 27, 28] (by decide +kernel) (by decide +kernel)
set_option maxRecDepth 20000 in
theorem gX0_keep_X3_save : GoodIn wsX0_keep (wsV RX0 22 RX3 yX3_save wsX3_save) := goodIn_app (goodIn_of _ (by decide +kernel)) ggX0_keep_X3_save
theorem dX0_keep_0 : decode cX0_keep 0 = .ok (.aload_n 1, 1) := by decide +kernel
theorem dX0_keep_1 : decode cX0_keep 1 = .ok (.aload_n 0, 1) := by decide +kernel
theorem dX0_keep_2 : decode cX0_keep 2 = .ok (.getfield 11, 3) := by decide +kernel
theorem dX0_keep_5 : decode cX0_keep 5 = .ok (.aload_n 0, 1) := by decide +kernel
theorem dX0_keep_6 : decode cX0_keep 6 = .ok (.getfield 19, 3) := by decide +kernel
theorem dX0_keep_9 : decode cX0_keep 9 = .ok (.bipush 27, 2) := by decide +kernel
theorem dX0_keep_11 : decode cX0_keep 11 = .ok (.imul, 1) := by decide +kernel
theorem dX0_keep_12 : decode cX0_keep 12 = .ok (.invokevirtual 22, 3) := by decide +kernel
theorem dX0_keep_15 : decode cX0_keep 15 = .ok (.aload_n 0, 1) := by decide +kernel
theorem dX0_keep_16 : decode cX0_keep 16 = .ok (.aload_n 0, 1) := by decide +kernel
theorem dX0_keep_17 : decode cX0_keep 17 = .ok (.getfield 19, 3) := by decide +kernel
theorem dX0_keep_20 : decode cX0_keep 20 = .ok (.iconst 1, 1) := by decide +kernel
theorem dX0_keep_21 : decode cX0_keep 21 = .ok (.iadd, 1) := by decide +kernel
theorem dX0_keep_22 : decode cX0_keep 22 = .ok (.bipush 24, 2) := by decide +kernel
theorem dX0_keep_24 : decode cX0_keep 24 = .ok (.irem, 1) := by decide +kernel
theorem dX0_keep_25 : decode cX0_keep 25 = .ok (.putfield 19, 3) := by decide +kernel
theorem dX0_keep_28 : decode cX0_keep 28 = .ok (.aload_n 0, 1) := by decide +kernel
theorem dX0_keep_29 : decode cX0_keep 29 = .ok (.aload_n 0, 1) := by decide +kernel
theorem dX0_keep_30 : decode cX0_keep 30 = .ok (.getfield 15, 3) := by decide +kernel
theorem dX0_keep_33 : decode cX0_keep 33 = .ok (.iconst 1, 1) := by decide +kernel
theorem dX0_keep_34 : decode cX0_keep 34 = .ok (.iadd, 1) := by decide +kernel
theorem dX0_keep_35 : decode cX0_keep 35 = .ok (.bipush 24, 2) := by decide +kernel
theorem dX0_keep_37 : decode cX0_keep 37 = .ok (.invokestatic 26, 3) := by decide +kernel
theorem dX0_keep_40 : decode cX0_keep 40 = .ok (.putfield 15, 3) := by decide +kernel
theorem dX0_keep_43 : decode cX0_keep 43 = .ok (.return_, 1) := by decide +kernel
set_option maxRecDepth 20000 in
theorem ggX0_takeBack_X3_load : GoodIn wsX0_takeBack wsX3_load := goodIn_r _ [8, 9, 10, 11, 12, 13, 14, 18, 19, 20, 21, 22, 23, 24] (by decide +kernel) (by decide +kernel)
set_option maxRecDepth 20000 in
theorem gX0_takeBack_X3_load : GoodIn wsX0_takeBack (wsV RX0 32 RX3 yX3_load wsX3_load) := goodIn_app (goodIn_of _ (by decide +kernel)) ggX0_takeBack_X3_load
theorem dX0_takeBack_0 : decode cX0_takeBack 0 = .ok (.aload_n 0, 1) := by decide +kernel
theorem dX0_takeBack_1 : decode cX0_takeBack 1 = .ok (.aload_n 0, 1) := by decide +kernel
theorem dX0_takeBack_2 : decode cX0_takeBack 2 = .ok (.getfield 19, 3) := by decide +kernel
theorem dX0_takeBack_5 : decode cX0_takeBack 5 = .ok (.bipush 24, 2) := by decide +kernel
theorem dX0_takeBack_7 : decode cX0_takeBack 7 = .ok (.iadd, 1) := by decide +kernel
theorem dX0_takeBack_8 : decode cX0_takeBack 8 = .ok (.iconst 1, 1) := by decide +kernel
theorem dX0_takeBack_9 : decode cX0_takeBack 9 = .ok (.isub, 1) := by decide +kernel
theorem dX0_takeBack_10 : decode cX0_takeBack 10 = .ok (.bipush 24, 2) := by decide +kernel
theorem dX0_takeBack_12 : decode cX0_takeBack 12 = .ok (.irem, 1) := by decide +kernel
theorem dX0_takeBack_13 : decode cX0_takeBack 13 = .ok (.putfield 19, 3) := by decide +kernel
theorem dX0_takeBack_16 : decode cX0_takeBack 16 = .ok (.aload_n 0, 1) := by decide +kernel
theorem dX0_takeBack_17 : decode cX0_takeBack 17 = .ok (.dup, 1) := by decide +kernel
theorem dX0_takeBack_18 : decode cX0_takeBack 18 = .ok (.getfield 15, 3) := by decide +kernel
theorem dX0_takeBack_21 : decode cX0_takeBack 21 = .ok (.iconst 1, 1) := by decide +kernel
theorem dX0_takeBack_22 : decode cX0_takeBack 22 = .ok (.isub, 1) := by decide +kernel
theorem dX0_takeBack_23 : decode cX0_takeBack 23 = .ok (.putfield 15, 3) := by decide +kernel
theorem dX0_takeBack_26 : decode cX0_takeBack 26 = .ok (.aload_n 1, 1) := by decide +kernel
theorem dX0_takeBack_27 : decode cX0_takeBack 27 = .ok (.aload_n 0, 1) := by decide +kernel
theorem dX0_takeBack_28 : decode cX0_takeBack 28 = .ok (.getfield 11, 3) := by decide +kernel
theorem dX0_takeBack_31 : decode cX0_takeBack 31 = .ok (.aload_n 0, 1) := by decide +kernel
theorem dX0_takeBack_32 : decode cX0_takeBack 32 = .ok (.getfield 19, 3) := by decide +kernel
theorem dX0_takeBack_35 : decode cX0_takeBack 35 = .ok (.bipush 27, 2) := by decide +kernel
theorem dX0_takeBack_37 : decode cX0_takeBack 37 = .ok (.imul, 1) := by decide +kernel
theorem dX0_takeBack_38 : decode cX0_takeBack 38 = .ok (.invokevirtual 32, 3) := by decide +kernel
theorem dX0_takeBack_41 : decode cX0_takeBack 41 = .ok (.return_, 1) := by decide +kernel
theorem dX1_init_0 : decode cX1_init 0 = .ok (.aload_n 0, 1) := by decide +kernel
theorem dX1_init_1 : decode cX1_init 1 = .ok (.invokespecial 3, 3) := by decide +kernel
theorem dX1_init_4 : decode cX1_init 4 = .ok (.aload_n 0, 1) := by decide +kernel
theorem dX1_init_5 : decode cX1_init 5 = .ok (.bipush 16, 2) := by decide +kernel
theorem dX1_init_7 : decode cX1_init 7 = .ok (.newarray .int, 2) := by decide +kernel
theorem dX1_init_9 : decode cX1_init 9 = .ok (.putfield 11, 3) := by decide +kernel
theorem dX1_init_12 : decode cX1_init 12 = .ok (.aload_n 0, 1) := by decide +kernel
theorem dX1_init_13 : decode cX1_init 13 = .ok (.iconst 0, 1) := by decide +kernel
theorem dX1_init_14 : decode cX1_init 14 = .ok (.putfield 15, 3) := by decide +kernel
theorem dX1_init_17 : decode cX1_init 17 = .ok (.return_, 1) := by decide +kernel
set_option maxRecDepth 20000 in
theorem ggX1_sizeOf_X1_leave : GoodIn wsX1_sizeOf wsX1_leave := goodIn_r _ [6, 7, 8, 52, 53] (by decide +kernel) (by decide +kernel)
set_option maxRecDepth 20000 in
theorem gX1_sizeOf_X1_leave : GoodIn wsX1_sizeOf (wsV RX1 24 RX1 yX1_leave wsX1_leave) := goodIn_app (goodIn_of _ (by decide +kernel)) ggX1_sizeOf_X1_leave
set_option maxRecDepth 20000 in
theorem ggX1_sizeOf_X1_sizeOfBoy : GoodIn wsX1_sizeOf wsX1_sizeOfBoy := goodIn_r _ [12, 2, 3, 4, 5, 6, 7, 8, 13, 14, 15, 16, 17, 18, 19, 20, 21, 22, 23, 24, 25, 26, 27, 1, 28, 29, 30, 31, 32, 33, 34, 35, 36, 52, 53, 45, 46, 47, 48, 49, 50, 51] (by decide +kernel) (by decide +kernel)
set_option maxRecDepth 20000 in
theorem gX1_sizeOf_X1_sizeOfBoy : GoodIn wsX1_sizeOf (wsV RX1 28 RX1 yX1_sizeOfBoy wsX1_sizeOfBoy) := goodIn_app (goodIn_of _ (by decide +kernel)) ggX1_sizeOf_X1_sizeOfBoy
set_option maxRecDepth 20000 in
theorem ggX1_sizeOf_X1_sizeOfMirrorOrSpy : GoodIn wsX1_sizeOf wsX1_sizeOfMirrorOrSpy := goodIn_r _ [40, 1, 2, 3, 4, 5, 6, 7, 8, 41, 42, 43, 44, 13, 14, 15, 16, 17, 18, 19, 20, 21, 22, 23, 45, 46, 47, 48, 49, 50, 51, 52, 53] (by decide +kernel) (by decide +kernel)
set_option maxRecDepth 20000 in
theorem gX1_sizeOf_X1_sizeOfMirrorOrSpy : GoodIn wsX1_sizeOf (wsV RX1 32 RX1 yX1_sizeOfMirrorOrSpy wsX1_sizeOfMirrorOrSpy) := goodIn_app (goodIn_of _ (by decide +kernel)) ggX1_sizeOf_X1_sizeOfMirrorOrSpy
theorem dX1_sizeOf_0 : decode cX1_sizeOf 0 = .ok (.aload_n 1, 1) := by decide +kernel
theorem dX1_sizeOf_1 : decode cX1_sizeOf 1 = .ok (.getfield 19, 3) := by decide +kernel
theorem dX1_sizeOf_4 : decode cX1_sizeOf 4 = .ok (.iload_n 2, 1) := by decide +kernel
theorem dX1_sizeOf_5 : decode cX1_sizeOf 5 = .ok (.iaload, 1) := by decide +kernel
theorem dX1_sizeOf_6 : decode cX1_sizeOf 6 = .ok (.tableswitch 47 1 3 #[40, 26, 40], 26) := by decide +kernel
theorem dX1_sizeOf_32 : decode cX1_sizeOf 32 = .ok (.aload_n 0, 1) := by decide +kernel
theorem dX1_sizeOf_33 : decode cX1_sizeOf 33 = .ok (.bipush 12, 2) := by decide +kernel
theorem dX1_sizeOf_35 : decode cX1_sizeOf 35 = .ok (.invokevirtual 24, 3) := by decide +kernel
theorem dX1_sizeOf_38 : decode cX1_sizeOf 38 = .ok (.aload_n 0, 1) := by decide +kernel
theorem dX1_sizeOf_39 : decode cX1_sizeOf 39 = .ok (.aload_n 1, 1) := by decide +kernel
theorem dX1_sizeOf_40 : decode cX1_sizeOf 40 = .ok (.iload_n 2, 1) := by decide +kernel
theorem dX1_sizeOf_41 : decode cX1_sizeOf 41 = .ok (.invokevirtual 28, 3) := by decide +kernel
theorem dX1_sizeOf_44 : decode cX1_sizeOf 44 = .ok (.ineg, 1) := by decide +kernel
theorem dX1_sizeOf_45 : decode cX1_sizeOf 45 = .ok (.ireturn, 1) := by decide +kernel
theorem dX1_sizeOf_46 : decode cX1_sizeOf 46 = .ok (.aload_n 0, 1) := by decide +kernel
theorem dX1_sizeOf_47 : decode cX1_sizeOf 47 = .ok (.aload_n 1, 1) := by decide +kernel
theorem dX1_sizeOf_48 : decode cX1_sizeOf 48 = .ok (.iload_n 2, 1) := by decide +kernel
theorem dX1_sizeOf_49 : decode cX1_sizeOf 49 = .ok (.invokevirtual 28, 3) := by decide +kernel
theorem dX1_sizeOf_52 : decode cX1_sizeOf 52 = .ok (.ireturn, 1) := by decide +kernel
theorem dX1_sizeOf_53 : decode cX1_sizeOf 53 = .ok (.aload_n 0, 1) := by decide +kernel
theorem dX1_sizeOf_54 : decode cX1_sizeOf 54 = .ok (.aload_n 1, 1) := by decide +kernel
theorem dX1_sizeOf_55 : decode cX1_sizeOf 55 = .ok (.iload_n 2, 1) := by decide +kernel
theorem dX1_sizeOf_56 : decode cX1_sizeOf 56 = .ok (.invokevirtual 32, 3) := by decide +kernel
theorem dX1_sizeOf_59 : decode cX1_sizeOf 59 = .ok (.ireturn, 1) := by decide +kernel
set_option maxRecDepth 20000 in
theorem ggX1_markOf_X8_isBoyish : GoodIn wsX1_markOf wsX8_isBoyish := goodIn_r _ [4] (by decide +kernel) (by decide +kernel)
set_option maxRecDepth 20000 in
theorem gX1_markOf_X8_isBoyish_n35 : GoodIn wsX1_markOf (wsX8_isBoyish) := ggX1_markOf_X8_isBoyish
set_option maxRecDepth 20000 in
theorem ggX1_markOf_X1_markOfBoyish : GoodIn wsX1_markOf wsX1_markOfBoyish := goodIn_r _ [9, 1, 10, 11, 12, 8, 13, 14, 15, 16, 17, 18, 19, 20, 21, 22, 23, 24, 48, 49, 50, 51, 52, 53, 54, 55, 56] (by decide +kernel) (by decide +kernel)
set_option maxRecDepth 20000 in
theorem gX1_markOf_X1_markOfBoyish : GoodIn wsX1_markOf (wsV RX1 39 RX1 yX1_markOfBoyish wsX1_markOfBoyish) := goodIn_app (goodIn_of _ (by decide +kernel)) ggX1_markOf_X1_markOfBoyish
set_option maxRecDepth 20000 in
theorem ggX1_markOf_X1_markOfMirror : GoodIn wsX1_markOf wsX1_markOfMirror := goodIn_r _ [28, 10, 11, 12, 8, 13, 14, 15, 21, 22, 23, 24, 29, 30, 31, 32, 1, 33, 34, 35, 36, 37, 38, 39, 40, 41, 42, 43, 44, 45, 46, 47, 55, 56, 48, 49, 50, 51, 52, 53, 54] (by decide +kernel) (by decide +kernel)
set_option maxRecDepth 20000 in
theorem gX1_markOf_X1_markOfMirror : GoodIn wsX1_markOf (wsV RX1 42 RX1 yX1_markOfMirror wsX1_markOfMirror) := goodIn_app (goodIn_of _ (by decide +kernel)) ggX1_markOf_X1_markOfMirror
theorem dX1_markOf_0 : decode cX1_markOf 0 = .ok (.aload_n 1, 1) := by decide +kernel
theorem dX1_markOf_1 : decode cX1_markOf 1 = .ok (.getfield 19, 3) := by decide +kernel
theorem dX1_markOf_4 : decode cX1_markOf 4 = .ok (.iload_n 2, 1) := by decide +kernel
theorem dX1_markOf_5 : decode cX1_markOf 5 = .ok (.iaload, 1) := by decide +kernel
theorem dX1_markOf_6 : decode cX1_markOf 6 = .ok (.invokestatic 35, 3) := by decide +kernel
theorem dX1_markOf_9 : decode cX1_markOf 9 = .ok (.ifCond .eq 12, 3) := by decide +kernel
theorem dX1_markOf_12 : decode cX1_markOf 12 = .ok (.aload_n 0, 1) := by decide +kernel
theorem dX1_markOf_13 : decode cX1_markOf 13 = .ok (.aload_n 1, 1) := by decide +kernel
theorem dX1_markOf_14 : decode cX1_markOf 14 = .ok (.iload_n 2, 1) := by decide +kernel
theorem dX1_markOf_15 : decode cX1_markOf 15 = .ok (.invokevirtual 39, 3) := by decide +kernel
theorem dX1_markOf_18 : decode cX1_markOf 18 = .ok (.goto 9, 3) := by decide +kernel
theorem dX1_markOf_21 : decode cX1_markOf 21 = .ok (.aload_n 0, 1) := by decide +kernel
theorem dX1_markOf_22 : decode cX1_markOf 22 = .ok (.aload_n 1, 1) := by decide +kernel
theorem dX1_markOf_23 : decode cX1_markOf 23 = .ok (.iload_n 2, 1) := by decide +kernel
theorem dX1_markOf_24 : decode cX1_markOf 24 = .ok (.invokevirtual 42, 3) := by decide +kernel
theorem dX1_markOf_27 : decode cX1_markOf 27 = .ok (.ireturn, 1) := by decide +kernel
set_option maxRecDepth 20000 in
theorem ggX1_sizeOfPlayer_X1_leave : GoodIn wsX1_sizeOfPlayer wsX1_leave := goodIn_r _ [5, 6, 7, 15, 16] (by decide +kernel) (by decide +kernel)
set_option maxRecDepth 20000 in
theorem gX1_sizeOfPlayer_X1_leave : GoodIn wsX1_sizeOfPlayer (wsV RX1 24 RX1 yX1_leave wsX1_leave) := goodIn_app (goodIn_of _ (by decide +kernel)) ggX1_sizeOfPlayer_X1_leave
set_option maxRecDepth 20000 in
theorem ggX1_sizeOfPlayer_X3_trainOf : GoodIn wsX1_sizeOfPlayer wsX3_trainOf := goodIn_r _ [12, 13, 14, 17, 18, 19, 20, 21, 22, 23] (by decide +kernel) (by decide +kernel)
set_option maxRecDepth 20000 in
theorem gX1_sizeOfPlayer_X3_trainOf : GoodIn wsX1_sizeOfPlayer (wsV RX1 45 RX3 yX3_trainOf wsX3_trainOf) := goodIn_app (goodIn_of _ (by decide +kernel)) ggX1_sizeOfPlayer_X3_trainOf
theorem dX1_sizeOfPlayer_0 : decode cX1_sizeOfPlayer 0 = .ok (.aload_n 0, 1) := by decide +kernel
theorem dX1_sizeOfPlayer_1 : decode cX1_sizeOfPlayer 1 = .ok (.bipush 10, 2) := by decide +kernel
theorem dX1_sizeOfPlayer_3 : decode cX1_sizeOfPlayer 3 = .ok (.invokevirtual 24, 3) := by decide +kernel
theorem dX1_sizeOfPlayer_6 : decode cX1_sizeOfPlayer 6 = .ok (.aload_n 1, 1) := by decide +kernel
theorem dX1_sizeOfPlayer_7 : decode cX1_sizeOfPlayer 7 = .ok (.iload_n 2, 1) := by decide +kernel
theorem dX1_sizeOfPlayer_8 : decode cX1_sizeOfPlayer 8 = .ok (.invokevirtual 45, 3) := by decide +kernel
theorem dX1_sizeOfPlayer_11 : decode cX1_sizeOfPlayer 11 = .ok (.ireturn, 1) := by decide +kernel
set_option maxRecDepth 20000 in
theorem ggX1_sizeOfBoy_X1_leave : GoodIn wsX1_sizeOfBoy wsX1_leave := goodIn_r _ [5, 6, 7, 33, 34] (by decide +kernel) (by decide +kernel)
set_option maxRecDepth 20000 in
theorem gX1_sizeOfBoy_X1_leave : GoodIn wsX1_sizeOfBoy (wsV RX1 24 RX1 yX1_leave wsX1_leave) := goodIn_app (goodIn_of _ (by decide +kernel)) ggX1_sizeOfBoy_X1_leave
set_option maxRecDepth 20000 in
theorem ggX1_sizeOfBoy_X1_sizeOfPlayer : GoodIn wsX1_sizeOfBoy wsX1_sizeOfPlayer := goodIn_r _ [11, 1, 2, 3, 4, 5, 6, 7, 12, 13, 14, 15, 16, 17, 18, 33, 34, 35, 36, 37, 38, 39, 40, 41] (by decide +kernel) (by decide +kernel)
set_option maxRecDepth 20000 in
theorem gX1_sizeOfBoy_X1_sizeOfPlayer : GoodIn wsX1_sizeOfBoy (wsV RX1 49 RX1 yX1_sizeOfPlayer wsX1_sizeOfPlayer) := goodIn_app (goodIn_of _ (by decide +kernel)) ggX1_sizeOfBoy_X1_sizeOfPlayer
set_option maxRecDepth 20000 in
theorem ggX1_sizeOfBoy_X1_markOfBoyish : GoodIn wsX1_sizeOfBoy wsX1_markOfBoyish := goodIn_r _ [22, 23, 1, 2, 3, 4, 5, 6, 7, 24, 25, 26, 27, 28, 29, 30, 31, 32, 35, 36, 37, 38, 39, 40, 41, 33, 34] (by decide +kernel) (by decide +kernel)
set_option maxRecDepth 20000 in
theorem gX1_sizeOfBoy_X1_markOfBoyish : GoodIn wsX1_sizeOfBoy (wsV RX1 39 RX1 yX1_markOfBoyish wsX1_markOfBoyish) := goodIn_app (goodIn_of _ (by decide +kernel)) ggX1_sizeOfBoy_X1_markOfBoyish
theorem dX1_sizeOfBoy_0 : decode cX1_sizeOfBoy 0 = .ok (.aload_n 0, 1) := by decide +kernel
theorem dX1_sizeOfBoy_1 : decode cX1_sizeOfBoy 1 = .ok (.bipush 11, 2) := by decide +kernel
theorem dX1_sizeOfBoy_3 : decode cX1_sizeOfBoy 3 = .ok (.invokevirtual 24, 3) := by decide +kernel
theorem dX1_sizeOfBoy_6 : decode cX1_sizeOfBoy 6 = .ok (.aload_n 0, 1) := by decide +kernel
theorem dX1_sizeOfBoy_7 : decode cX1_sizeOfBoy 7 = .ok (.aload_n 1, 1) := by decide +kernel
theorem dX1_sizeOfBoy_8 : decode cX1_sizeOfBoy 8 = .ok (.iload_n 2, 1) := by decide +kernel
theorem dX1_sizeOfBoy_9 : decode cX1_sizeOfBoy 9 = .ok (.invokevirtual 49, 3) := by decide +kernel
theorem dX1_sizeOfBoy_12 : decode cX1_sizeOfBoy 12 = .ok (.istore_n 3, 1) := by decide +kernel
theorem dX1_sizeOfBoy_13 : decode cX1_sizeOfBoy 13 = .ok (.iload_n 3, 1) := by decide +kernel
theorem dX1_sizeOfBoy_14 : decode cX1_sizeOfBoy 14 = .ok (.aload_n 0, 1) := by decide +kernel
theorem dX1_sizeOfBoy_15 : decode cX1_sizeOfBoy 15 = .ok (.aload_n 1, 1) := by decide +kernel
theorem dX1_sizeOfBoy_16 : decode cX1_sizeOfBoy 16 = .ok (.iload_n 2, 1) := by decide +kernel
theorem dX1_sizeOfBoy_17 : decode cX1_sizeOfBoy 17 = .ok (.invokevirtual 39, 3) := by decide +kernel
theorem dX1_sizeOfBoy_20 : decode cX1_sizeOfBoy 20 = .ok (.iadd, 1) := by decide +kernel
theorem dX1_sizeOfBoy_21 : decode cX1_sizeOfBoy 21 = .ok (.ireturn, 1) := by decide +kernel
set_option maxRecDepth 20000 in
theorem ggX1_sizeOfMirror_X1_leave : GoodIn wsX1_sizeOfMirror wsX1_leave := goodIn_r _ [5, 6, 7, 19, 20] (by decide +kernel) (by decide +kernel)
set_option maxRecDepth 20000 in
theorem gX1_sizeOfMirror_X1_leave : GoodIn wsX1_sizeOfMirror (wsV RX1 24 RX1 yX1_leave wsX1_leave) := goodIn_app (goodIn_of _ (by decide +kernel)) ggX1_sizeOfMirror_X1_leave
set_option maxRecDepth 20000 in
theorem ggX1_sizeOfMirror_X1_sizeOfPlayer : GoodIn wsX1_sizeOfMirror wsX1_sizeOfPlayer := goodIn_r _ [11, 1, 2, 3, 4, 5, 6, 7, 12, 13, 14, 15, 16, 17, 18, 19, 20, 21, 22, 23, 24, 25, 26, 27] (by decide +kernel) (by decide +kernel)
set_option maxRecDepth 20000 in
theorem gX1_sizeOfMirror_X1_sizeOfPlayer : GoodIn wsX1_sizeOfMirror (wsV RX1 49 RX1 yX1_sizeOfPlayer wsX1_sizeOfPlayer) := goodIn_app (goodIn_of _ (by decide +kernel)) ggX1_sizeOfMirror_X1_sizeOfPlayer
theorem dX1_sizeOfMirror_0 : decode cX1_sizeOfMirror 0 = .ok (.aload_n 0, 1) := by decide +kernel
theorem dX1_sizeOfMirror_1 : decode cX1_sizeOfMirror 1 = .ok (.bipush 13, 2) := by decide +kernel
theorem dX1_sizeOfMirror_3 : decode cX1_sizeOfMirror 3 = .ok (.invokevirtual 24, 3) := by decide +kernel
theorem dX1_sizeOfMirror_6 : decode cX1_sizeOfMirror 6 = .ok (.aload_n 0, 1) := by decide +kernel
theorem dX1_sizeOfMirror_7 : decode cX1_sizeOfMirror 7 = .ok (.aload_n 1, 1) := by decide +kernel
theorem dX1_sizeOfMirror_8 : decode cX1_sizeOfMirror 8 = .ok (.iload_n 2, 1) := by decide +kernel
theorem dX1_sizeOfMirror_9 : decode cX1_sizeOfMirror 9 = .ok (.invokevirtual 49, 3) := by decide +kernel
theorem dX1_sizeOfMirror_12 : decode cX1_sizeOfMirror 12 = .ok (.bipush 100, 2) := by decide +kernel
theorem dX1_sizeOfMirror_14 : decode cX1_sizeOfMirror 14 = .ok (.isub, 1) := by decide +kernel
theorem dX1_sizeOfMirror_15 : decode cX1_sizeOfMirror 15 = .ok (.ireturn, 1) := by decide +kernel
set_option maxRecDepth 20000 in
theorem ggX1_sizeOfMirrorOrSpy_X1_leave : GoodIn wsX1_sizeOfMirrorOrSpy wsX1_leave := goodIn_r _ [6, 7, 8, 31, 32] (by decide +kernel) (by decide +kernel)
set_option maxRecDepth 20000 in
theorem gX1_sizeOfMirrorOrSpy_X1_leave : GoodIn wsX1_sizeOfMirrorOrSpy (wsV RX1 24 RX1 yX1_leave wsX1_leave) := goodIn_app (goodIn_of _ (by decide +kernel)) ggX1_sizeOfMirrorOrSpy_X1_leave
set_option maxRecDepth 20000 in
theorem ggX1_sizeOfMirrorOrSpy_X1_sizeOfMirror : GoodIn wsX1_sizeOfMirrorOrSpy wsX1_sizeOfMirror := goodIn_r _ [12, 2, 3, 4, 5, 6, 7, 8, 13, 14, 15, 16, 17, 18, 19, 20, 21, 22, 23, 31, 32, 24, 25, 26, 27, 28, 29, 30] (by decide +kernel) (by decide +kernel)
set_option maxRecDepth 20000 in
theorem gX1_sizeOfMirrorOrSpy_X1_sizeOfMirror : GoodIn wsX1_sizeOfMirrorOrSpy (wsV RX1 52 RX1 yX1_sizeOfMirror wsX1_sizeOfMirror) := goodIn_app (goodIn_of _ (by decide +kernel)) ggX1_sizeOfMirrorOrSpy_X1_sizeOfMirror
theorem dX1_sizeOfMirrorOrSpy_0 : decode cX1_sizeOfMirrorOrSpy 0 = .ok (.aload_n 1, 1) := by decide +kernel
theorem dX1_sizeOfMirrorOrSpy_1 : decode cX1_sizeOfMirrorOrSpy 1 = .ok (.getfield 19, 3) := by decide +kernel
theorem dX1_sizeOfMirrorOrSpy_4 : decode cX1_sizeOfMirrorOrSpy 4 = .ok (.iload_n 2, 1) := by decide +kernel
theorem dX1_sizeOfMirrorOrSpy_5 : decode cX1_sizeOfMirrorOrSpy 5 = .ok (.iaload, 1) := by decide +kernel
theorem dX1_sizeOfMirrorOrSpy_6 : decode cX1_sizeOfMirrorOrSpy 6 = .ok (.iconst 5, 1) := by decide +kernel
theorem dX1_sizeOfMirrorOrSpy_7 : decode cX1_sizeOfMirrorOrSpy 7 = .ok (.if_icmp .ne 18, 3) := by decide +kernel
theorem dX1_sizeOfMirrorOrSpy_10 : decode cX1_sizeOfMirrorOrSpy 10 = .ok (.aload_n 0, 1) := by decide +kernel
theorem dX1_sizeOfMirrorOrSpy_11 : decode cX1_sizeOfMirrorOrSpy 11 = .ok (.bipush 14, 2) := by decide +kernel
theorem dX1_sizeOfMirrorOrSpy_13 : decode cX1_sizeOfMirrorOrSpy 13 = .ok (.invokevirtual 24, 3) := by decide +kernel
theorem dX1_sizeOfMirrorOrSpy_16 : decode cX1_sizeOfMirrorOrSpy 16 = .ok (.iconst 2, 1) := by decide +kernel
theorem dX1_sizeOfMirrorOrSpy_17 : decode cX1_sizeOfMirrorOrSpy 17 = .ok (.aload_n 0, 1) := by decide +kernel
theorem dX1_sizeOfMirrorOrSpy_18 : decode cX1_sizeOfMirrorOrSpy 18 = .ok (.aload_n 1, 1) := by decide +kernel
theorem dX1_sizeOfMirrorOrSpy_19 : decode cX1_sizeOfMirrorOrSpy 19 = .ok (.iload_n 2, 1) := by decide +kernel
theorem dX1_sizeOfMirrorOrSpy_20 : decode cX1_sizeOfMirrorOrSpy 20 = .ok (.invokevirtual 52, 3) := by decide +kernel
theorem dX1_sizeOfMirrorOrSpy_23 : decode cX1_sizeOfMirrorOrSpy 23 = .ok (.imul, 1) := by decide +kernel
theorem dX1_sizeOfMirrorOrSpy_24 : decode cX1_sizeOfMirrorOrSpy 24 = .ok (.ireturn, 1) := by decide +kernel
theorem dX1_sizeOfMirrorOrSpy_25 : decode cX1_sizeOfMirrorOrSpy 25 = .ok (.aload_n 0, 1) := by decide +kernel
theorem dX1_sizeOfMirrorOrSpy_26 : decode cX1_sizeOfMirrorOrSpy 26 = .ok (.aload_n 1, 1) := by decide +kernel
theorem dX1_sizeOfMirrorOrSpy_27 : decode cX1_sizeOfMirrorOrSpy 27 = .ok (.iload_n 2, 1) := by decide +kernel
theorem dX1_sizeOfMirrorOrSpy_28 : decode cX1_sizeOfMirrorOrSpy 28 = .ok (.invokevirtual 52, 3) := by decide +kernel
theorem dX1_sizeOfMirrorOrSpy_31 : decode cX1_sizeOfMirrorOrSpy 31 = .ok (.ireturn, 1) := by decide +kernel
set_option maxRecDepth 20000 in
theorem ggX1_markOfPlayer_X1_leave : GoodIn wsX1_markOfPlayer wsX1_leave := goodIn_r _ [5, 6, 7, 8, 9] (by decide +kernel) (by decide +kernel)
set_option maxRecDepth 20000 in
theorem gX1_markOfPlayer_X1_leave : GoodIn wsX1_markOfPlayer (wsV RX1 24 RX1 yX1_leave wsX1_leave) := goodIn_app (goodIn_of _ (by decide +kernel)) ggX1_markOfPlayer_X1_leave
theorem dX1_markOfPlayer_0 : decode cX1_markOfPlayer 0 = .ok (.aload_n 0, 1) := by decide +kernel
theorem dX1_markOfPlayer_1 : decode cX1_markOfPlayer 1 = .ok (.bipush 20, 2) := by decide +kernel
theorem dX1_markOfPlayer_3 : decode cX1_markOfPlayer 3 = .ok (.invokevirtual 24, 3) := by decide +kernel
theorem dX1_markOfPlayer_6 : decode cX1_markOfPlayer 6 = .ok (.iload_n 1, 1) := by decide +kernel
theorem dX1_markOfPlayer_7 : decode cX1_markOfPlayer 7 = .ok (.ireturn, 1) := by decide +kernel
set_option maxRecDepth 20000 in
theorem ggX1_markOfBoy_X1_leave : GoodIn wsX1_markOfBoy wsX1_leave := goodIn_r _ [6, 7, 8, 20, 21] (by decide +kernel) (by decide +kernel)
set_option maxRecDepth 20000 in
theorem gX1_markOfBoy_X1_leave : GoodIn wsX1_markOfBoy (wsV RX1 24 RX1 yX1_leave wsX1_leave) := goodIn_app (goodIn_of _ (by decide +kernel)) ggX1_markOfBoy_X1_leave
set_option maxRecDepth 20000 in
theorem ggX1_markOfBoy_X1_markOfPlayer : GoodIn wsX1_markOfBoy wsX1_markOfPlayer := goodIn_r _ [12, 2, 3, 4, 5, 6, 7, 8, 20, 21] (by decide +kernel) (by decide +kernel)
set_option maxRecDepth 20000 in
theorem gX1_markOfBoy_X1_markOfPlayer : GoodIn wsX1_markOfBoy (wsV RX1 55 RX1 yX1_markOfPlayer wsX1_markOfPlayer) := goodIn_app (goodIn_of _ (by decide +kernel)) ggX1_markOfBoy_X1_markOfPlayer
theorem dX1_markOfBoy_0 : decode cX1_markOfBoy 0 = .ok (.aload_n 0, 1) := by decide +kernel
theorem dX1_markOfBoy_1 : decode cX1_markOfBoy 1 = .ok (.bipush 21, 2) := by decide +kernel
theorem dX1_markOfBoy_3 : decode cX1_markOfBoy 3 = .ok (.invokevirtual 24, 3) := by decide +kernel
theorem dX1_markOfBoy_6 : decode cX1_markOfBoy 6 = .ok (.aload_n 0, 1) := by decide +kernel
theorem dX1_markOfBoy_7 : decode cX1_markOfBoy 7 = .ok (.iload_n 2, 1) := by decide +kernel
theorem dX1_markOfBoy_8 : decode cX1_markOfBoy 8 = .ok (.invokevirtual 55, 3) := by decide +kernel
theorem dX1_markOfBoy_11 : decode cX1_markOfBoy 11 = .ok (.aload_n 1, 1) := by decide +kernel
theorem dX1_markOfBoy_12 : decode cX1_markOfBoy 12 = .ok (.getfield 58, 3) := by decide +kernel
theorem dX1_markOfBoy_15 : decode cX1_markOfBoy 15 = .ok (.iload_n 2, 1) := by decide +kernel
theorem dX1_markOfBoy_16 : decode cX1_markOfBoy 16 = .ok (.iaload, 1) := by decide +kernel
theorem dX1_markOfBoy_17 : decode cX1_markOfBoy 17 = .ok (.iadd, 1) := by decide +kernel
theorem dX1_markOfBoy_18 : decode cX1_markOfBoy 18 = .ok (.ireturn, 1) := by decide +kernel
set_option maxRecDepth 20000 in
theorem ggX1_markOfBoyish_X1_leave : GoodIn wsX1_markOfBoyish wsX1_leave := goodIn_r _ [6, 7, 8, 25, 26] (by decide +kernel) (by decide +kernel)
set_option maxRecDepth 20000 in
theorem gX1_markOfBoyish_X1_leave : GoodIn wsX1_markOfBoyish (wsV RX1 24 RX1 yX1_leave wsX1_leave) := goodIn_app (goodIn_of _ (by decide +kernel)) ggX1_markOfBoyish_X1_leave
set_option maxRecDepth 20000 in
theorem ggX1_markOfBoyish_X1_markOfBoy : GoodIn wsX1_markOfBoyish wsX1_markOfBoy := goodIn_r _ [12, 13, 2, 3, 4, 5, 6, 7, 8, 14, 15, 16, 17, 18, 19, 20, 21, 22, 23, 24, 25, 26] (by decide +kernel) (by decide +kernel)
set_option maxRecDepth 20000 in
theorem gX1_markOfBoyish_X1_markOfBoy : GoodIn wsX1_markOfBoyish (wsV RX1 61 RX1 yX1_markOfBoy wsX1_markOfBoy) := goodIn_app (goodIn_of _ (by decide +kernel)) ggX1_markOfBoyish_X1_markOfBoy
theorem dX1_markOfBoyish_0 : decode cX1_markOfBoyish 0 = .ok (.aload_n 1, 1) := by decide +kernel
theorem dX1_markOfBoyish_1 : decode cX1_markOfBoyish 1 = .ok (.getfield 19, 3) := by decide +kernel
theorem dX1_markOfBoyish_4 : decode cX1_markOfBoyish 4 = .ok (.iload_n 2, 1) := by decide +kernel
theorem dX1_markOfBoyish_5 : decode cX1_markOfBoyish 5 = .ok (.iaload, 1) := by decide +kernel
theorem dX1_markOfBoyish_6 : decode cX1_markOfBoyish 6 = .ok (.lookupswitch 58 #[(2, 43), (3, 26)], 26) := by decide +kernel
theorem dX1_markOfBoyish_32 : decode cX1_markOfBoyish 32 = .ok (.aload_n 0, 1) := by decide +kernel
theorem dX1_markOfBoyish_33 : decode cX1_markOfBoyish 33 = .ok (.bipush 22, 2) := by decide +kernel
theorem dX1_markOfBoyish_35 : decode cX1_markOfBoyish 35 = .ok (.invokevirtual 24, 3) := by decide +kernel
theorem dX1_markOfBoyish_38 : decode cX1_markOfBoyish 38 = .ok (.aload_n 0, 1) := by decide +kernel
theorem dX1_markOfBoyish_39 : decode cX1_markOfBoyish 39 = .ok (.aload_n 1, 1) := by decide +kernel
theorem dX1_markOfBoyish_40 : decode cX1_markOfBoyish 40 = .ok (.iload_n 2, 1) := by decide +kernel
theorem dX1_markOfBoyish_41 : decode cX1_markOfBoyish 41 = .ok (.invokevirtual 61, 3) := by decide +kernel
theorem dX1_markOfBoyish_44 : decode cX1_markOfBoyish 44 = .ok (.sipush 1000, 3) := by decide +kernel
theorem dX1_markOfBoyish_47 : decode cX1_markOfBoyish 47 = .ok (.isub, 1) := by decide +kernel
theorem dX1_markOfBoyish_48 : decode cX1_markOfBoyish 48 = .ok (.ireturn, 1) := by decide +kernel
theorem dX1_markOfBoyish_49 : decode cX1_markOfBoyish 49 = .ok (.aload_n 0, 1) := by decide +kernel
theorem dX1_markOfBoyish_50 : decode cX1_markOfBoyish 50 = .ok (.bipush 24, 2) := by decide +kernel
theorem dX1_markOfBoyish_52 : decode cX1_markOfBoyish 52 = .ok (.invokevirtual 24, 3) := by decide +kernel
theorem dX1_markOfBoyish_55 : decode cX1_markOfBoyish 55 = .ok (.iconst 2, 1) := by decide +kernel
theorem dX1_markOfBoyish_56 : decode cX1_markOfBoyish 56 = .ok (.aload_n 0, 1) := by decide +kernel
theorem dX1_markOfBoyish_57 : decode cX1_markOfBoyish 57 = .ok (.aload_n 1, 1) := by decide +kernel
theorem dX1_markOfBoyish_58 : decode cX1_markOfBoyish 58 = .ok (.iload_n 2, 1) := by decide +kernel
theorem dX1_markOfBoyish_59 : decode cX1_markOfBoyish 59 = .ok (.invokevirtual 61, 3) := by decide +kernel
theorem dX1_markOfBoyish_62 : decode cX1_markOfBoyish 62 = .ok (.imul, 1) := by decide +kernel
theorem dX1_markOfBoyish_63 : decode cX1_markOfBoyish 63 = .ok (.ireturn, 1) := by decide +kernel
theorem dX1_markOfBoyish_64 : decode cX1_markOfBoyish 64 = .ok (.aload_n 0, 1) := by decide +kernel
theorem dX1_markOfBoyish_65 : decode cX1_markOfBoyish 65 = .ok (.aload_n 1, 1) := by decide +kernel
theorem dX1_markOfBoyish_66 : decode cX1_markOfBoyish 66 = .ok (.iload_n 2, 1) := by decide +kernel
theorem dX1_markOfBoyish_67 : decode cX1_markOfBoyish 67 = .ok (.invokevirtual 61, 3) := by decide +kernel
theorem dX1_markOfBoyish_70 : decode cX1_markOfBoyish 70 = .ok (.ireturn, 1) := by decide +kernel
set_option maxRecDepth 20000 in
theorem ggX1_markOfMirror_X1_leave : GoodIn wsX1_markOfMirror wsX1_leave := goodIn_r _ [5, 6, 7, 32, 33] (by decide +kernel) (by decide +kernel)
set_option maxRecDepth 20000 in
theorem gX1_markOfMirror_X1_leave : GoodIn wsX1_markOfMirror (wsV RX1 24 RX1 yX1_leave wsX1_leave) := goodIn_app (goodIn_of _ (by decide +kernel)) ggX1_markOfMirror_X1_leave
set_option maxRecDepth 20000 in
theorem ggX1_markOfMirror_X1_markOfPlayer : GoodIn wsX1_markOfMirror wsX1_markOfPlayer := goodIn_r _ [11, 1, 2, 3, 4, 5, 6, 7, 32, 33] (by decide +kernel) (by decide +kernel)
set_option maxRecDepth 20000 in
theorem gX1_markOfMirror_X1_markOfPlayer : GoodIn wsX1_markOfMirror (wsV RX1 55 RX1 yX1_markOfPlayer wsX1_markOfPlayer) := goodIn_app (goodIn_of _ (by decide +kernel)) ggX1_markOfMirror_X1_markOfPlayer
set_option maxRecDepth 20000 in
theorem ggX1_markOfMirror_X1_sizeOfMirrorOrSpy : GoodIn wsX1_markOfMirror wsX1_sizeOfMirrorOrSpy := goodIn_r _ [15, 16, 1, 2, 3, 4, 5, 6, 7, 17, 18, 19, 20, 21, 22, 23, 24, 25, 26, 27, 28, 29, 30, 31, 34, 35, 36, 37, 38, 39, 40, 32, 33] (by decide +kernel) (by decide +kernel)
set_option maxRecDepth 20000 in
theorem gX1_markOfMirror_X1_sizeOfMirrorOrSpy : GoodIn wsX1_markOfMirror (wsV RX1 32 RX1 yX1_sizeOfMirrorOrSpy wsX1_sizeOfMirrorOrSpy) := goodIn_app (goodIn_of _ (by decide +kernel)) ggX1_markOfMirror_X1_sizeOfMirrorOrSpy
theorem dX1_markOfMirror_0 : decode cX1_markOfMirror 0 = .ok (.aload_n 0, 1) := by decide +kernel
theorem dX1_markOfMirror_1 : decode cX1_markOfMirror 1 = .ok (.bipush 23, 2) := by decide +kernel
theorem dX1_markOfMirror_3 : decode cX1_markOfMirror 3 = .ok (.invokevirtual 24, 3) := by decide +kernel
theorem dX1_markOfMirror_6 : decode cX1_markOfMirror 6 = .ok (.aload_n 0, 1) := by decide +kernel
theorem dX1_markOfMirror_7 : decode cX1_markOfMirror 7 = .ok (.iload_n 2, 1) := by decide +kernel
theorem dX1_markOfMirror_8 : decode cX1_markOfMirror 8 = .ok (.invokevirtual 55, 3) := by decide +kernel
theorem dX1_markOfMirror_11 : decode cX1_markOfMirror 11 = .ok (.istore_n 3, 1) := by decide +kernel
theorem dX1_markOfMirror_12 : decode cX1_markOfMirror 12 = .ok (.iload_n 3, 1) := by decide +kernel
theorem dX1_markOfMirror_13 : decode cX1_markOfMirror 13 = .ok (.aload_n 0, 1) := by decide +kernel
theorem dX1_markOfMirror_14 : decode cX1_markOfMirror 14 = .ok (.aload_n 1, 1) := by decide +kernel
theorem dX1_markOfMirror_15 : decode cX1_markOfMirror 15 = .ok (.iload_n 2, 1) := by decide +kernel
theorem dX1_markOfMirror_16 : decode cX1_markOfMirror 16 = .ok (.invokevirtual 32, 3) := by decide +kernel
theorem dX1_markOfMirror_19 : decode cX1_markOfMirror 19 = .ok (.isub, 1) := by decide +kernel
theorem dX1_markOfMirror_20 : decode cX1_markOfMirror 20 = .ok (.ireturn, 1) := by decide +kernel
theorem dX1_leave_0 : decode cX1_leave 0 = .ok (.aload_n 0, 1) := by decide +kernel
theorem dX1_leave_1 : decode cX1_leave 1 = .ok (.getfield 15, 3) := by decide +kernel
theorem dX1_leave_4 : decode cX1_leave 4 = .ok (.bipush 16, 2) := by decide +kernel
theorem dX1_leave_6 : decode cX1_leave 6 = .ok (.if_icmp .ge 23, 3) := by decide +kernel
theorem dX1_leave_9 : decode cX1_leave 9 = .ok (.aload_n 0, 1) := by decide +kernel
theorem dX1_leave_10 : decode cX1_leave 10 = .ok (.getfield 11, 3) := by decide +kernel
theorem dX1_leave_13 : decode cX1_leave 13 = .ok (.aload_n 0, 1) := by decide +kernel
theorem dX1_leave_14 : decode cX1_leave 14 = .ok (.getfield 15, 3) := by decide +kernel
theorem dX1_leave_17 : decode cX1_leave 17 = .ok (.iload_n 1, 1) := by decide +kernel
theorem dX1_leave_18 : decode cX1_leave 18 = .ok (.iastore, 1) := by decide +kernel
theorem dX1_leave_19 : decode cX1_leave 19 = .ok (.aload_n 0, 1) := by decide +kernel
theorem dX1_leave_20 : decode cX1_leave 20 = .ok (.dup, 1) := by decide +kernel
theorem dX1_leave_21 : decode cX1_leave 21 = .ok (.getfield 15, 3) := by decide +kernel
theorem dX1_leave_24 : decode cX1_leave 24 = .ok (.iconst 1, 1) := by decide +kernel
theorem dX1_leave_25 : decode cX1_leave 25 = .ok (.iadd, 1) := by decide +kernel
theorem dX1_leave_26 : decode cX1_leave 26 = .ok (.putfield 15, 3) := by decide +kernel
theorem dX1_leave_29 : decode cX1_leave 29 = .ok (.return_, 1) := by decide +kernel
theorem dX2_init_0 : decode cX2_init 0 = .ok (.aload_n 0, 1) := by decide +kernel
theorem dX2_init_1 : decode cX2_init 1 = .ok (.invokespecial 3, 3) := by decide +kernel
theorem dX2_init_4 : decode cX2_init 4 = .ok (.return_, 1) := by decide +kernel
set_option maxRecDepth 20000 in
theorem ggX2_play_X8_nextOf : GoodIn wsX2_play wsX8_nextOf := goodIn_r _ [6] (by decide +kernel) (by decide +kernel)
set_option maxRecDepth 20000 in
theorem gX2_play_X8_nextOf_n9 : GoodIn wsX2_play (wsX8_nextOf) := ggX2_play_X8_nextOf
set_option maxRecDepth 20000 in
theorem ggX2_play_X2_afterTie : GoodIn wsX2_play wsX2_afterTie := goodIn_r _ [10] (by decide +kernel) (by decide +kernel)
set_option maxRecDepth 20000 in
theorem gX2_play_X2_afterTie : GoodIn wsX2_play (va_wsS RX2 25 yX2_afterTie wsX2_afterTie) := goodIn_app (goodIn_of _ (by decide +kernel)) ggX2_play_X2_afterTie
theorem dX2_play_0 : decode cX2_play 0 = .ok (.aload_n 0, 1) := by decide +kernel
theorem dX2_play_1 : decode cX2_play 1 = .ok (.iload_n 1, 1) := by decide +kernel
theorem dX2_play_2 : decode cX2_play 2 = .ok (.iconst 5, 1) := by decide +kernel
theorem dX2_play_3 : decode cX2_play 3 = .ok (.if_icmp .ne 11, 3) := by decide +kernel
theorem dX2_play_6 : decode cX2_play 6 = .ok (.iload 4, 2) := by decide +kernel
theorem dX2_play_8 : decode cX2_play 8 = .ok (.invokestatic 9, 3) := by decide +kernel
theorem dX2_play_11 : decode cX2_play 11 = .ok (.goto 4, 3) := by decide +kernel
theorem dX2_play_14 : decode cX2_play 14 = .ok (.iload_n 2, 1) := by decide +kernel
theorem dX2_play_15 : decode cX2_play 15 = .ok (.putfield 13, 3) := by decide +kernel
theorem dX2_play_18 : decode cX2_play 18 = .ok (.aload_n 0, 1) := by decide +kernel
theorem dX2_play_19 : decode cX2_play 19 = .ok (.iload_n 3, 1) := by decide +kernel
theorem dX2_play_20 : decode cX2_play 20 = .ok (.iconst 5, 1) := by decide +kernel
theorem dX2_play_21 : decode cX2_play 21 = .ok (.if_icmp .ne 10, 3) := by decide +kernel
theorem dX2_play_24 : decode cX2_play 24 = .ok (.iload_n 2, 1) := by decide +kernel
theorem dX2_play_25 : decode cX2_play 25 = .ok (.invokestatic 9, 3) := by decide +kernel
theorem dX2_play_28 : decode cX2_play 28 = .ok (.goto 5, 3) := by decide +kernel
theorem dX2_play_31 : decode cX2_play 31 = .ok (.iload 4, 2) := by decide +kernel
theorem dX2_play_33 : decode cX2_play 33 = .ok (.putfield 19, 3) := by decide +kernel
theorem dX2_play_36 : decode cX2_play 36 = .ok (.aload_n 0, 1) := by decide +kernel
theorem dX2_play_37 : decode cX2_play 37 = .ok (.iconst 1, 1) := by decide +kernel
theorem dX2_play_38 : decode cX2_play 38 = .ok (.putfield 22, 3) := by decide +kernel
theorem dX2_play_41 : decode cX2_play 41 = .ok (.aload_n 0, 1) := by decide +kernel
theorem dX2_play_42 : decode cX2_play 42 = .ok (.getfield 13, 3) := by decide +kernel
theorem dX2_play_45 : decode cX2_play 45 = .ok (.aload_n 0, 1) := by decide +kernel
theorem dX2_play_46 : decode cX2_play 46 = .ok (.getfield 19, 3) := by decide +kernel
theorem dX2_play_49 : decode cX2_play 49 = .ok (.if_icmp .ne 62, 3) := by decide +kernel
theorem dX2_play_52 : decode cX2_play 52 = .ok (.aload_n 0, 1) := by decide +kernel
theorem dX2_play_53 : decode cX2_play 53 = .ok (.getfield 22, 3) := by decide +kernel
theorem dX2_play_56 : decode cX2_play 56 = .ok (.bipush 9, 2) := by decide +kernel
theorem dX2_play_58 : decode cX2_play 58 = .ok (.if_icmp .ge 53, 3) := by decide +kernel
theorem dX2_play_61 : decode cX2_play 61 = .ok (.aload_n 0, 1) := by decide +kernel
theorem dX2_play_62 : decode cX2_play 62 = .ok (.getfield 13, 3) := by decide +kernel
theorem dX2_play_65 : decode cX2_play 65 = .ok (.istore 5, 2) := by decide +kernel
theorem dX2_play_67 : decode cX2_play 67 = .ok (.iload 5, 2) := by decide +kernel
theorem dX2_play_69 : decode cX2_play 69 = .ok (.invokestatic 9, 3) := by decide +kernel
theorem dX2_play_72 : decode cX2_play 72 = .ok (.istore 6, 2) := by decide +kernel
theorem dX2_play_74 : decode cX2_play 74 = .ok (.aload_n 0, 1) := by decide +kernel
theorem dX2_play_75 : decode cX2_play 75 = .ok (.iload_n 1, 1) := by decide +kernel
theorem dX2_play_76 : decode cX2_play 76 = .ok (.iload 5, 2) := by decide +kernel
theorem dX2_play_78 : decode cX2_play 78 = .ok (.iload 6, 2) := by decide +kernel
theorem dX2_play_80 : decode cX2_play 80 = .ok (.invokestatic 25, 3) := by decide +kernel
theorem dX2_play_83 : decode cX2_play 83 = .ok (.putfield 13, 3) := by decide +kernel
theorem dX2_play_86 : decode cX2_play 86 = .ok (.aload_n 0, 1) := by decide +kernel
theorem dX2_play_87 : decode cX2_play 87 = .ok (.iload_n 3, 1) := by decide +kernel
theorem dX2_play_88 : decode cX2_play 88 = .ok (.iload 5, 2) := by decide +kernel
theorem dX2_play_90 : decode cX2_play 90 = .ok (.iload 6, 2) := by decide +kernel
theorem dX2_play_92 : decode cX2_play 92 = .ok (.invokestatic 25, 3) := by decide +kernel
theorem dX2_play_95 : decode cX2_play 95 = .ok (.putfield 19, 3) := by decide +kernel
theorem dX2_play_98 : decode cX2_play 98 = .ok (.aload_n 0, 1) := by decide +kernel
theorem dX2_play_99 : decode cX2_play 99 = .ok (.dup, 1) := by decide +kernel
theorem dX2_play_100 : decode cX2_play 100 = .ok (.getfield 22, 3) := by decide +kernel
theorem dX2_play_103 : decode cX2_play 103 = .ok (.iconst 1, 1) := by decide +kernel
theorem dX2_play_104 : decode cX2_play 104 = .ok (.iadd, 1) := by decide +kernel
theorem dX2_play_105 : decode cX2_play 105 = .ok (.putfield 22, 3) := by decide +kernel
theorem dX2_play_108 : decode cX2_play 108 = .ok (.goto (-67), 3) := by decide +kernel
theorem dX2_play_111 : decode cX2_play 111 = .ok (.return_, 1) := by decide +kernel
theorem dX2_isTie_0 : decode cX2_isTie 0 = .ok (.aload_n 0, 1) := by decide +kernel
theorem dX2_isTie_1 : decode cX2_isTie 1 = .ok (.getfield 13, 3) := by decide +kernel
theorem dX2_isTie_4 : decode cX2_isTie 4 = .ok (.aload_n 0, 1) := by decide +kernel
theorem dX2_isTie_5 : decode cX2_isTie 5 = .ok (.getfield 19, 3) := by decide +kernel
theorem dX2_isTie_8 : decode cX2_isTie 8 = .ok (.if_icmp .ne 7, 3) := by decide +kernel
theorem dX2_isTie_11 : decode cX2_isTie 11 = .ok (.iconst 1, 1) := by decide +kernel
theorem dX2_isTie_12 : decode cX2_isTie 12 = .ok (.goto 4, 3) := by decide +kernel
theorem dX2_isTie_15 : decode cX2_isTie 15 = .ok (.iconst 0, 1) := by decide +kernel
theorem dX2_isTie_16 : decode cX2_isTie 16 = .ok (.ireturn, 1) := by decide +kernel
set_option maxRecDepth 20000 in
theorem ggX2_firstHasBeaten_X8_nextOf : GoodIn wsX2_firstHasBeaten wsX8_nextOf := goodIn_r _ [5] (by decide +kernel) (by decide +kernel)
set_option maxRecDepth 20000 in
theorem gX2_firstHasBeaten_X8_nextOf_n9 : GoodIn wsX2_firstHasBeaten (wsX8_nextOf) := ggX2_firstHasBeaten_X8_nextOf
theorem dX2_firstHasBeaten_0 : decode cX2_firstHasBeaten 0 = .ok (.aload_n 0, 1) := by decide +kernel
theorem dX2_firstHasBeaten_1 : decode cX2_firstHasBeaten 1 = .ok (.getfield 13, 3) := by decide +kernel
theorem dX2_firstHasBeaten_4 : decode cX2_firstHasBeaten 4 = .ok (.aload_n 0, 1) := by decide +kernel
theorem dX2_firstHasBeaten_5 : decode cX2_firstHasBeaten 5 = .ok (.getfield 19, 3) := by decide +kernel
theorem dX2_firstHasBeaten_8 : decode cX2_firstHasBeaten 8 = .ok (.invokestatic 9, 3) := by decide +kernel
theorem dX2_firstHasBeaten_11 : decode cX2_firstHasBeaten 11 = .ok (.if_icmp .ne 7, 3) := by decide +kernel
theorem dX2_firstHasBeaten_14 : decode cX2_firstHasBeaten 14 = .ok (.iconst 1, 1) := by decide +kernel
theorem dX2_firstHasBeaten_15 : decode cX2_firstHasBeaten 15 = .ok (.goto 4, 3) := by decide +kernel
theorem dX2_firstHasBeaten_18 : decode cX2_firstHasBeaten 18 = .ok (.iconst 0, 1) := by decide +kernel
theorem dX2_firstHasBeaten_19 : decode cX2_firstHasBeaten 19 = .ok (.ireturn, 1) := by decide +kernel
theorem dX2_afterTie_0 : decode cX2_afterTie 0 = .ok (.iload_n 0, 1) := by decide +kernel
theorem dX2_afterTie_1 : decode cX2_afterTie 1 = .ok (.iconst 2, 1) := by decide +kernel
theorem dX2_afterTie_2 : decode cX2_afterTie 2 = .ok (.if_icmp .ne 5, 3) := by decide +kernel
theorem dX2_afterTie_5 : decode cX2_afterTie 5 = .ok (.iload_n 1, 1) := by decide +kernel
theorem dX2_afterTie_6 : decode cX2_afterTie 6 = .ok (.ireturn, 1) := by decide +kernel
theorem dX2_afterTie_7 : decode cX2_afterTie 7 = .ok (.iload_n 0, 1) := by decide +kernel
theorem dX2_afterTie_8 : decode cX2_afterTie 8 = .ok (.iconst 3, 1) := by decide +kernel
theorem dX2_afterTie_9 : decode cX2_afterTie 9 = .ok (.if_icmp .ne 12, 3) := by decide +kernel
theorem dX2_afterTie_12 : decode cX2_afterTie 12 = .ok (.iload_n 2, 1) := by decide +kernel
theorem dX2_afterTie_13 : decode cX2_afterTie 13 = .ok (.iconst 2, 1) := by decide +kernel
theorem dX2_afterTie_14 : decode cX2_afterTie 14 = .ok (.if_icmp .ne 7, 3) := by decide +kernel
theorem dX2_afterTie_17 : decode cX2_afterTie 17 = .ok (.iconst 0, 1) := by decide +kernel
theorem dX2_afterTie_18 : decode cX2_afterTie 18 = .ok (.goto 4, 3) := by decide +kernel
theorem dX2_afterTie_21 : decode cX2_afterTie 21 = .ok (.iload_n 2, 1) := by decide +kernel
theorem dX2_afterTie_22 : decode cX2_afterTie 22 = .ok (.ireturn, 1) := by decide +kernel
set_option maxRecDepth 20000 in
theorem ggX3_init_X2_init : GoodIn wsX3_init wsX2_init := goodIn_r _ [16, 17, 2, 3] (by decide +kernel) (by decide +kernel)
set_option maxRecDepth 20000 in
theorem gX3_init_X2_init_n33 : GoodIn wsX3_init (wsX2_init) := ggX3_init_X2_init
theorem dX3_init_0 : decode cX3_init 0 = .ok (.aload_n 0, 1) := by decide +kernel
theorem dX3_init_1 : decode cX3_init 1 = .ok (.invokespecial 3, 3) := by decide +kernel
theorem dX3_init_4 : decode cX3_init 4 = .ok (.aload_n 0, 1) := by decide +kernel
theorem dX3_init_5 : decode cX3_init 5 = .ok (.iconst 0, 1) := by decide +kernel
theorem dX3_init_6 : decode cX3_init 6 = .ok (.putfield 9, 3) := by decide +kernel
theorem dX3_init_9 : decode cX3_init 9 = .ok (.aload_n 0, 1) := by decide +kernel
theorem dX3_init_10 : decode cX3_init 10 = .ok (.iconst 0, 1) := by decide +kernel
theorem dX3_init_11 : decode cX3_init 11 = .ok (.putfield 15, 3) := by decide +kernel
theorem dX3_init_14 : decode cX3_init 14 = .ok (.aload_n 0, 1) := by decide +kernel
theorem dX3_init_15 : decode cX3_init 15 = .ok (.iconst 0, 1) := by decide +kernel
theorem dX3_init_16 : decode cX3_init 16 = .ok (.putfield 18, 3) := by decide +kernel
theorem dX3_init_19 : decode cX3_init 19 = .ok (.aload_n 0, 1) := by decide +kernel
theorem dX3_init_20 : decode cX3_init 20 = .ok (.bipush 8, 2) := by decide +kernel
theorem dX3_init_22 : decode cX3_init 22 = .ok (.newarray .int, 2) := by decide +kernel
theorem dX3_init_24 : decode cX3_init 24 = .ok (.putfield 21, 3) := by decide +kernel
theorem dX3_init_27 : decode cX3_init 27 = .ok (.aload_n 0, 1) := by decide +kernel
theorem dX3_init_28 : decode cX3_init 28 = .ok (.bipush 8, 2) := by decide +kernel
theorem dX3_init_30 : decode cX3_init 30 = .ok (.newarray .int, 2) := by decide +kernel
theorem dX3_init_32 : decode cX3_init 32 = .ok (.putfield 25, 3) := by decide +kernel
theorem dX3_init_35 : decode cX3_init 35 = .ok (.aload_n 0, 1) := by decide +kernel
theorem dX3_init_36 : decode cX3_init 36 = .ok (.bipush 8, 2) := by decide +kernel
theorem dX3_init_38 : decode cX3_init 38 = .ok (.newarray .int, 2) := by decide +kernel
theorem dX3_init_40 : decode cX3_init 40 = .ok (.putfield 28, 3) := by decide +kernel
theorem dX3_init_43 : decode cX3_init 43 = .ok (.aload_n 0, 1) := by decide +kernel
theorem dX3_init_44 : decode cX3_init 44 = .ok (.new 31, 3) := by decide +kernel
theorem dX3_init_47 : decode cX3_init 47 = .ok (.dup, 1) := by decide +kernel
theorem dX3_init_48 : decode cX3_init 48 = .ok (.invokespecial 33, 3) := by decide +kernel
theorem dX3_init_51 : decode cX3_init 51 = .ok (.putfield 34, 3) := by decide +kernel
theorem dX3_init_54 : decode cX3_init 54 = .ok (.return_, 1) := by decide +kernel
theorem dX3_isMissing_0 : decode cX3_isMissing 0 = .ok (.aload_n 0, 1) := by decide +kernel
theorem dX3_isMissing_1 : decode cX3_isMissing 1 = .ok (.getfield 9, 3) := by decide +kernel
theorem dX3_isMissing_4 : decode cX3_isMissing 4 = .ok (.ifCond .ne 7, 3) := by decide +kernel
theorem dX3_isMissing_7 : decode cX3_isMissing 7 = .ok (.iconst 1, 1) := by decide +kernel
theorem dX3_isMissing_8 : decode cX3_isMissing 8 = .ok (.goto 4, 3) := by decide +kernel
theorem dX3_isMissing_11 : decode cX3_isMissing 11 = .ok (.iconst 0, 1) := by decide +kernel
theorem dX3_isMissing_12 : decode cX3_isMissing 12 = .ok (.ireturn, 1) := by decide +kernel
theorem dX3_clear_0 : decode cX3_clear 0 = .ok (.aload_n 0, 1) := by decide +kernel
theorem dX3_clear_1 : decode cX3_clear 1 = .ok (.iconst 0, 1) := by decide +kernel
theorem dX3_clear_2 : decode cX3_clear 2 = .ok (.putfield 9, 3) := by decide +kernel
theorem dX3_clear_5 : decode cX3_clear 5 = .ok (.aload_n 0, 1) := by decide +kernel
theorem dX3_clear_6 : decode cX3_clear 6 = .ok (.iconst 0, 1) := by decide +kernel
theorem dX3_clear_7 : decode cX3_clear 7 = .ok (.putfield 15, 3) := by decide +kernel
theorem dX3_clear_10 : decode cX3_clear 10 = .ok (.aload_n 0, 1) := by decide +kernel
theorem dX3_clear_11 : decode cX3_clear 11 = .ok (.iconst 0, 1) := by decide +kernel
theorem dX3_clear_12 : decode cX3_clear 12 = .ok (.putfield 18, 3) := by decide +kernel
theorem dX3_clear_15 : decode cX3_clear 15 = .ok (.return_, 1) := by decide +kernel
theorem dX3_enter_0 : decode cX3_enter 0 = .ok (.aload_n 0, 1) := by decide +kernel
theorem dX3_enter_1 : decode cX3_enter 1 = .ok (.getfield 9, 3) := by decide +kernel
theorem dX3_enter_4 : decode cX3_enter 4 = .ok (.bipush 8, 2) := by decide +kernel
theorem dX3_enter_6 : decode cX3_enter 6 = .ok (.if_icmp .ge 46, 3) := by decide +kernel
theorem dX3_enter_9 : decode cX3_enter 9 = .ok (.aload_n 0, 1) := by decide +kernel
theorem dX3_enter_10 : decode cX3_enter 10 = .ok (.getfield 21, 3) := by decide +kernel
theorem dX3_enter_13 : decode cX3_enter 13 = .ok (.aload_n 0, 1) := by decide +kernel
theorem dX3_enter_14 : decode cX3_enter 14 = .ok (.getfield 9, 3) := by decide +kernel
theorem dX3_enter_17 : decode cX3_enter 17 = .ok (.iload_n 1, 1) := by decide +kernel
theorem dX3_enter_18 : decode cX3_enter 18 = .ok (.iastore, 1) := by decide +kernel
theorem dX3_enter_19 : decode cX3_enter 19 = .ok (.aload_n 0, 1) := by decide +kernel
theorem dX3_enter_20 : decode cX3_enter 20 = .ok (.getfield 25, 3) := by decide +kernel
theorem dX3_enter_23 : decode cX3_enter 23 = .ok (.aload_n 0, 1) := by decide +kernel
theorem dX3_enter_24 : decode cX3_enter 24 = .ok (.getfield 9, 3) := by decide +kernel
theorem dX3_enter_27 : decode cX3_enter 27 = .ok (.iload_n 2, 1) := by decide +kernel
theorem dX3_enter_28 : decode cX3_enter 28 = .ok (.iastore, 1) := by decide +kernel
theorem dX3_enter_29 : decode cX3_enter 29 = .ok (.aload_n 0, 1) := by decide +kernel
theorem dX3_enter_30 : decode cX3_enter 30 = .ok (.getfield 28, 3) := by decide +kernel
theorem dX3_enter_33 : decode cX3_enter 33 = .ok (.aload_n 0, 1) := by decide +kernel
theorem dX3_enter_34 : decode cX3_enter 34 = .ok (.getfield 9, 3) := by decide +kernel
theorem dX3_enter_37 : decode cX3_enter 37 = .ok (.aload_n 0, 1) := by decide +kernel
theorem dX3_enter_38 : decode cX3_enter 38 = .ok (.getfield 9, 3) := by decide +kernel
theorem dX3_enter_41 : decode cX3_enter 41 = .ok (.iastore, 1) := by decide +kernel
theorem dX3_enter_42 : decode cX3_enter 42 = .ok (.aload_n 0, 1) := by decide +kernel
theorem dX3_enter_43 : decode cX3_enter 43 = .ok (.dup, 1) := by decide +kernel
theorem dX3_enter_44 : decode cX3_enter 44 = .ok (.getfield 9, 3) := by decide +kernel
theorem dX3_enter_47 : decode cX3_enter 47 = .ok (.iconst 1, 1) := by decide +kernel
theorem dX3_enter_48 : decode cX3_enter 48 = .ok (.iadd, 1) := by decide +kernel
theorem dX3_enter_49 : decode cX3_enter 49 = .ok (.putfield 9, 3) := by decide +kernel
theorem dX3_enter_52 : decode cX3_enter 52 = .ok (.return_, 1) := by decide +kernel
theorem dX3_become_0 : decode cX3_become 0 = .ok (.aload_n 0, 1) := by decide +kernel
theorem dX3_become_1 : decode cX3_become 1 = .ok (.aload_n 1, 1) := by decide +kernel
theorem dX3_become_2 : decode cX3_become 2 = .ok (.getfield 9, 3) := by decide +kernel
theorem dX3_become_5 : decode cX3_become 5 = .ok (.putfield 9, 3) := by decide +kernel
theorem dX3_become_8 : decode cX3_become 8 = .ok (.aload_n 0, 1) := by decide +kernel
theorem dX3_become_9 : decode cX3_become 9 = .ok (.aload_n 1, 1) := by decide +kernel
theorem dX3_become_10 : decode cX3_become 10 = .ok (.getfield 15, 3) := by decide +kernel
theorem dX3_become_13 : decode cX3_become 13 = .ok (.putfield 15, 3) := by decide +kernel
theorem dX3_become_16 : decode cX3_become 16 = .ok (.aload_n 0, 1) := by decide +kernel
theorem dX3_become_17 : decode cX3_become 17 = .ok (.aload_n 1, 1) := by decide +kernel
theorem dX3_become_18 : decode cX3_become 18 = .ok (.getfield 18, 3) := by decide +kernel
theorem dX3_become_21 : decode cX3_become 21 = .ok (.putfield 18, 3) := by decide +kernel
theorem dX3_become_24 : decode cX3_become 24 = .ok (.iconst 0, 1) := by decide +kernel
theorem dX3_become_25 : decode cX3_become 25 = .ok (.istore_n 2, 1) := by decide +kernel
theorem dX3_become_26 : decode cX3_become 26 = .ok (.iload_n 2, 1) := by decide +kernel
theorem dX3_become_27 : decode cX3_become 27 = .ok (.bipush 8, 2) := by decide +kernel
theorem dX3_become_29 : decode cX3_become 29 = .ok (.if_icmp .ge 45, 3) := by decide +kernel
theorem dX3_become_32 : decode cX3_become 32 = .ok (.aload_n 0, 1) := by decide +kernel
theorem dX3_become_33 : decode cX3_become 33 = .ok (.getfield 21, 3) := by decide +kernel
theorem dX3_become_36 : decode cX3_become 36 = .ok (.iload_n 2, 1) := by decide +kernel
theorem dX3_become_37 : decode cX3_become 37 = .ok (.aload_n 1, 1) := by decide +kernel
theorem dX3_become_38 : decode cX3_become 38 = .ok (.getfield 21, 3) := by decide +kernel
theorem dX3_become_41 : decode cX3_become 41 = .ok (.iload_n 2, 1) := by decide +kernel
theorem dX3_become_42 : decode cX3_become 42 = .ok (.iaload, 1) := by decide +kernel
theorem dX3_become_43 : decode cX3_become 43 = .ok (.iastore, 1) := by decide +kernel
theorem dX3_become_44 : decode cX3_become 44 = .ok (.aload_n 0, 1) := by decide +kernel
theorem dX3_become_45 : decode cX3_become 45 = .ok (.getfield 25, 3) := by decide +kernel
theorem dX3_become_48 : decode cX3_become 48 = .ok (.iload_n 2, 1) := by decide +kernel
theorem dX3_become_49 : decode cX3_become 49 = .ok (.aload_n 1, 1) := by decide +kernel
theorem dX3_become_50 : decode cX3_become 50 = .ok (.getfield 25, 3) := by decide +kernel
theorem dX3_become_53 : decode cX3_become 53 = .ok (.iload_n 2, 1) := by decide +kernel
theorem dX3_become_54 : decode cX3_become 54 = .ok (.iaload, 1) := by decide +kernel
theorem dX3_become_55 : decode cX3_become 55 = .ok (.iastore, 1) := by decide +kernel
theorem dX3_become_56 : decode cX3_become 56 = .ok (.aload_n 0, 1) := by decide +kernel
theorem dX3_become_57 : decode cX3_become 57 = .ok (.getfield 28, 3) := by decide +kernel
theorem dX3_become_60 : decode cX3_become 60 = .ok (.iload_n 2, 1) := by decide +kernel
theorem dX3_become_61 : decode cX3_become 61 = .ok (.aload_n 1, 1) := by decide +kernel
theorem dX3_become_62 : decode cX3_become 62 = .ok (.getfield 28, 3) := by decide +kernel
theorem dX3_become_65 : decode cX3_become 65 = .ok (.iload_n 2, 1) := by decide +kernel
theorem dX3_become_66 : decode cX3_become 66 = .ok (.iaload, 1) := by decide +kernel
theorem dX3_become_67 : decode cX3_become 67 = .ok (.iastore, 1) := by decide +kernel
theorem dX3_become_68 : decode cX3_become 68 = .ok (.iinc 2 1, 3) := by decide +kernel
theorem dX3_become_71 : decode cX3_become 71 = .ok (.goto (-45), 3) := by decide +kernel
theorem dX3_become_74 : decode cX3_become 74 = .ok (.return_, 1) := by decide +kernel
theorem dX3_save_0 : decode cX3_save 0 = .ok (.aload_n 1, 1) := by decide +kernel
theorem dX3_save_1 : decode cX3_save 1 = .ok (.iload_n 2, 1) := by decide +kernel
theorem dX3_save_2 : decode cX3_save 2 = .ok (.aload_n 0, 1) := by decide +kernel
theorem dX3_save_3 : decode cX3_save 3 = .ok (.getfield 9, 3) := by decide +kernel
theorem dX3_save_6 : decode cX3_save 6 = .ok (.iastore, 1) := by decide +kernel
theorem dX3_save_7 : decode cX3_save 7 = .ok (.aload_n 1, 1) := by decide +kernel
theorem dX3_save_8 : decode cX3_save 8 = .ok (.iload_n 2, 1) := by decide +kernel
theorem dX3_save_9 : decode cX3_save 9 = .ok (.iconst 1, 1) := by decide +kernel
theorem dX3_save_10 : decode cX3_save 10 = .ok (.iadd, 1) := by decide +kernel
theorem dX3_save_11 : decode cX3_save 11 = .ok (.aload_n 0, 1) := by decide +kernel
theorem dX3_save_12 : decode cX3_save 12 = .ok (.getfield 15, 3) := by decide +kernel
theorem dX3_save_15 : decode cX3_save 15 = .ok (.iastore, 1) := by decide +kernel
theorem dX3_save_16 : decode cX3_save 16 = .ok (.aload_n 1, 1) := by decide +kernel
theorem dX3_save_17 : decode cX3_save 17 = .ok (.iload_n 2, 1) := by decide +kernel
theorem dX3_save_18 : decode cX3_save 18 = .ok (.iconst 2, 1) := by decide +kernel
theorem dX3_save_19 : decode cX3_save 19 = .ok (.iadd, 1) := by decide +kernel
theorem dX3_save_20 : decode cX3_save 20 = .ok (.aload_n 0, 1) := by decide +kernel
theorem dX3_save_21 : decode cX3_save 21 = .ok (.getfield 18, 3) := by decide +kernel
theorem dX3_save_24 : decode cX3_save 24 = .ok (.iastore, 1) := by decide +kernel
theorem dX3_save_25 : decode cX3_save 25 = .ok (.iconst 0, 1) := by decide +kernel
theorem dX3_save_26 : decode cX3_save 26 = .ok (.istore_n 3, 1) := by decide +kernel
theorem dX3_save_27 : decode cX3_save 27 = .ok (.iload_n 3, 1) := by decide +kernel
theorem dX3_save_28 : decode cX3_save 28 = .ok (.bipush 8, 2) := by decide +kernel
theorem dX3_save_30 : decode cX3_save 30 = .ok (.if_icmp .ge 54, 3) := by decide +kernel
theorem dX3_save_33 : decode cX3_save 33 = .ok (.aload_n 1, 1) := by decide +kernel
theorem dX3_save_34 : decode cX3_save 34 = .ok (.iload_n 2, 1) := by decide +kernel
theorem dX3_save_35 : decode cX3_save 35 = .ok (.iconst 3, 1) := by decide +kernel
theorem dX3_save_36 : decode cX3_save 36 = .ok (.iadd, 1) := by decide +kernel
theorem dX3_save_37 : decode cX3_save 37 = .ok (.iload_n 3, 1) := by decide +kernel
theorem dX3_save_38 : decode cX3_save 38 = .ok (.iadd, 1) := by decide +kernel
theorem dX3_save_39 : decode cX3_save 39 = .ok (.aload_n 0, 1) := by decide +kernel
theorem dX3_save_40 : decode cX3_save 40 = .ok (.getfield 21, 3) := by decide +kernel
theorem dX3_save_43 : decode cX3_save 43 = .ok (.iload_n 3, 1) := by decide +kernel
theorem dX3_save_44 : decode cX3_save 44 = .ok (.iaload, 1) := by decide +kernel
theorem dX3_save_45 : decode cX3_save 45 = .ok (.iastore, 1) := by decide +kernel
theorem dX3_save_46 : decode cX3_save 46 = .ok (.aload_n 1, 1) := by decide +kernel
theorem dX3_save_47 : decode cX3_save 47 = .ok (.iload_n 2, 1) := by decide +kernel
theorem dX3_save_48 : decode cX3_save 48 = .ok (.iconst 3, 1) := by decide +kernel
theorem dX3_save_49 : decode cX3_save 49 = .ok (.iadd, 1) := by decide +kernel
theorem dX3_save_50 : decode cX3_save 50 = .ok (.bipush 8, 2) := by decide +kernel
theorem dX3_save_52 : decode cX3_save 52 = .ok (.iadd, 1) := by decide +kernel
theorem dX3_save_53 : decode cX3_save 53 = .ok (.iload_n 3, 1) := by decide +kernel
theorem dX3_save_54 : decode cX3_save 54 = .ok (.iadd, 1) := by decide +kernel
theorem dX3_save_55 : decode cX3_save 55 = .ok (.aload_n 0, 1) := by decide +kernel
theorem dX3_save_56 : decode cX3_save 56 = .ok (.getfield 25, 3) := by decide +kernel
theorem dX3_save_59 : decode cX3_save 59 = .ok (.iload_n 3, 1) := by decide +kernel
theorem dX3_save_60 : decode cX3_save 60 = .ok (.iaload, 1) := by decide +kernel
theorem dX3_save_61 : decode cX3_save 61 = .ok (.iastore, 1) := by decide +kernel
theorem dX3_save_62 : decode cX3_save 62 = .ok (.aload_n 1, 1) := by decide +kernel
theorem dX3_save_63 : decode cX3_save 63 = .ok (.iload_n 2, 1) := by decide +kernel
theorem dX3_save_64 : decode cX3_save 64 = .ok (.iconst 3, 1) := by decide +kernel
theorem dX3_save_65 : decode cX3_save 65 = .ok (.iadd, 1) := by decide +kernel
theorem dX3_save_66 : decode cX3_save 66 = .ok (.bipush 16, 2) := by decide +kernel
theorem dX3_save_68 : decode cX3_save 68 = .ok (.iadd, 1) := by decide +kernel
theorem dX3_save_69 : decode cX3_save 69 = .ok (.iload_n 3, 1) := by decide +kernel
theorem dX3_save_70 : decode cX3_save 70 = .ok (.iadd, 1) := by decide +kernel
theorem dX3_save_71 : decode cX3_save 71 = .ok (.aload_n 0, 1) := by decide +kernel
theorem dX3_save_72 : decode cX3_save 72 = .ok (.getfield 28, 3) := by decide +kernel
theorem dX3_save_75 : decode cX3_save 75 = .ok (.iload_n 3, 1) := by decide +kernel
theorem dX3_save_76 : decode cX3_save 76 = .ok (.iaload, 1) := by decide +kernel
theorem dX3_save_77 : decode cX3_save 77 = .ok (.iastore, 1) := by decide +kernel
theorem dX3_save_78 : decode cX3_save 78 = .ok (.iinc 3 1, 3) := by decide +kernel
theorem dX3_save_81 : decode cX3_save 81 = .ok (.goto (-54), 3) := by decide +kernel
theorem dX3_save_84 : decode cX3_save 84 = .ok (.return_, 1) := by decide +kernel
theorem dX3_load_0 : decode cX3_load 0 = .ok (.aload_n 0, 1) := by decide +kernel
theorem dX3_load_1 : decode cX3_load 1 = .ok (.aload_n 1, 1) := by decide +kernel
theorem dX3_load_2 : decode cX3_load 2 = .ok (.iload_n 2, 1) := by decide +kernel
theorem dX3_load_3 : decode cX3_load 3 = .ok (.iaload, 1) := by decide +kernel
theorem dX3_load_4 : decode cX3_load 4 = .ok (.putfield 9, 3) := by decide +kernel
theorem dX3_load_7 : decode cX3_load 7 = .ok (.aload_n 0, 1) := by decide +kernel
theorem dX3_load_8 : decode cX3_load 8 = .ok (.aload_n 1, 1) := by decide +kernel
theorem dX3_load_9 : decode cX3_load 9 = .ok (.iload_n 2, 1) := by decide +kernel
theorem dX3_load_10 : decode cX3_load 10 = .ok (.iconst 1, 1) := by decide +kernel
theorem dX3_load_11 : decode cX3_load 11 = .ok (.iadd, 1) := by decide +kernel
theorem dX3_load_12 : decode cX3_load 12 = .ok (.iaload, 1) := by decide +kernel
theorem dX3_load_13 : decode cX3_load 13 = .ok (.putfield 15, 3) := by decide +kernel
theorem dX3_load_16 : decode cX3_load 16 = .ok (.aload_n 0, 1) := by decide +kernel
theorem dX3_load_17 : decode cX3_load 17 = .ok (.aload_n 1, 1) := by decide +kernel
theorem dX3_load_18 : decode cX3_load 18 = .ok (.iload_n 2, 1) := by decide +kernel
theorem dX3_load_19 : decode cX3_load 19 = .ok (.iconst 2, 1) := by decide +kernel
theorem dX3_load_20 : decode cX3_load 20 = .ok (.iadd, 1) := by decide +kernel
theorem dX3_load_21 : decode cX3_load 21 = .ok (.iaload, 1) := by decide +kernel
theorem dX3_load_22 : decode cX3_load 22 = .ok (.putfield 18, 3) := by decide +kernel
theorem dX3_load_25 : decode cX3_load 25 = .ok (.iconst 0, 1) := by decide +kernel
theorem dX3_load_26 : decode cX3_load 26 = .ok (.istore_n 3, 1) := by decide +kernel
theorem dX3_load_27 : decode cX3_load 27 = .ok (.iload_n 3, 1) := by decide +kernel
theorem dX3_load_28 : decode cX3_load 28 = .ok (.bipush 8, 2) := by decide +kernel
theorem dX3_load_30 : decode cX3_load 30 = .ok (.if_icmp .ge 54, 3) := by decide +kernel
theorem dX3_load_33 : decode cX3_load 33 = .ok (.aload_n 0, 1) := by decide +kernel
theorem dX3_load_34 : decode cX3_load 34 = .ok (.getfield 21, 3) := by decide +kernel
theorem dX3_load_37 : decode cX3_load 37 = .ok (.iload_n 3, 1) := by decide +kernel
theorem dX3_load_38 : decode cX3_load 38 = .ok (.aload_n 1, 1) := by decide +kernel
theorem dX3_load_39 : decode cX3_load 39 = .ok (.iload_n 2, 1) := by decide +kernel
theorem dX3_load_40 : decode cX3_load 40 = .ok (.iconst 3, 1) := by decide +kernel
theorem dX3_load_41 : decode cX3_load 41 = .ok (.iadd, 1) := by decide +kernel
theorem dX3_load_42 : decode cX3_load 42 = .ok (.iload_n 3, 1) := by decide +kernel
theorem dX3_load_43 : decode cX3_load 43 = .ok (.iadd, 1) := by decide +kernel
theorem dX3_load_44 : decode cX3_load 44 = .ok (.iaload, 1) := by decide +kernel
theorem dX3_load_45 : decode cX3_load 45 = .ok (.iastore, 1) := by decide +kernel
theorem dX3_load_46 : decode cX3_load 46 = .ok (.aload_n 0, 1) := by decide +kernel
theorem dX3_load_47 : decode cX3_load 47 = .ok (.getfield 25, 3) := by decide +kernel
theorem dX3_load_50 : decode cX3_load 50 = .ok (.iload_n 3, 1) := by decide +kernel
theorem dX3_load_51 : decode cX3_load 51 = .ok (.aload_n 1, 1) := by decide +kernel
theorem dX3_load_52 : decode cX3_load 52 = .ok (.iload_n 2, 1) := by decide +kernel
theorem dX3_load_53 : decode cX3_load 53 = .ok (.iconst 3, 1) := by decide +kernel
theorem dX3_load_54 : decode cX3_load 54 = .ok (.iadd, 1) := by decide +kernel
theorem dX3_load_55 : decode cX3_load 55 = .ok (.bipush 8, 2) := by decide +kernel
theorem dX3_load_57 : decode cX3_load 57 = .ok (.iadd, 1) := by decide +kernel
theorem dX3_load_58 : decode cX3_load 58 = .ok (.iload_n 3, 1) := by decide +kernel
theorem dX3_load_59 : decode cX3_load 59 = .ok (.iadd, 1) := by decide +kernel
theorem dX3_load_60 : decode cX3_load 60 = .ok (.iaload, 1) := by decide +kernel
theorem dX3_load_61 : decode cX3_load 61 = .ok (.iastore, 1) := by decide +kernel
theorem dX3_load_62 : decode cX3_load 62 = .ok (.aload_n 0, 1) := by decide +kernel
theorem dX3_load_63 : decode cX3_load 63 = .ok (.getfield 28, 3) := by decide +kernel
theorem dX3_load_66 : decode cX3_load 66 = .ok (.iload_n 3, 1) := by decide +kernel
theorem dX3_load_67 : decode cX3_load 67 = .ok (.aload_n 1, 1) := by decide +kernel
theorem dX3_load_68 : decode cX3_load 68 = .ok (.iload_n 2, 1) := by decide +kernel
theorem dX3_load_69 : decode cX3_load 69 = .ok (.iconst 3, 1) := by decide +kernel
theorem dX3_load_70 : decode cX3_load 70 = .ok (.iadd, 1) := by decide +kernel
theorem dX3_load_71 : decode cX3_load 71 = .ok (.bipush 16, 2) := by decide +kernel
theorem dX3_load_73 : decode cX3_load 73 = .ok (.iadd, 1) := by decide +kernel
theorem dX3_load_74 : decode cX3_load 74 = .ok (.iload_n 3, 1) := by decide +kernel
theorem dX3_load_75 : decode cX3_load 75 = .ok (.iadd, 1) := by decide +kernel
theorem dX3_load_76 : decode cX3_load 76 = .ok (.iaload, 1) := by decide +kernel
theorem dX3_load_77 : decode cX3_load 77 = .ok (.iastore, 1) := by decide +kernel
theorem dX3_load_78 : decode cX3_load 78 = .ok (.iinc 3 1, 3) := by decide +kernel
theorem dX3_load_81 : decode cX3_load 81 = .ok (.goto (-54), 3) := by decide +kernel
theorem dX3_load_84 : decode cX3_load 84 = .ok (.return_, 1) := by decide +kernel
theorem dX3_leads_0 : decode cX3_leads 0 = .ok (.aload_n 0, 1) := by decide +kernel
theorem dX3_leads_1 : decode cX3_leads 1 = .ok (.getfield 28, 3) := by decide +kernel
theorem dX3_leads_4 : decode cX3_leads 4 = .ok (.iload_n 1, 1) := by decide +kernel
theorem dX3_leads_5 : decode cX3_leads 5 = .ok (.iaload, 1) := by decide +kernel
theorem dX3_leads_6 : decode cX3_leads 6 = .ok (.iload_n 1, 1) := by decide +kernel
theorem dX3_leads_7 : decode cX3_leads 7 = .ok (.if_icmp .ne 7, 3) := by decide +kernel
theorem dX3_leads_10 : decode cX3_leads 10 = .ok (.iconst 1, 1) := by decide +kernel
theorem dX3_leads_11 : decode cX3_leads 11 = .ok (.goto 4, 3) := by decide +kernel
theorem dX3_leads_14 : decode cX3_leads 14 = .ok (.iconst 0, 1) := by decide +kernel
theorem dX3_leads_15 : decode cX3_leads 15 = .ok (.ireturn, 1) := by decide +kernel
set_option maxRecDepth 20000 in
theorem ggX3_leaders_X3_leads : GoodIn wsX3_leaders wsX3_leads := goodIn_r _ [6, 7, 8, 9, 10, 11, 12, 13, 14] (by decide +kernel) (by decide +kernel)
set_option maxRecDepth 20000 in
theorem gX3_leaders_X3_leads : GoodIn wsX3_leaders (wsV RX3 38 RX3 yX3_leads wsX3_leads) := goodIn_app (goodIn_of _ (by decide +kernel)) ggX3_leaders_X3_leads
theorem dX3_leaders_0 : decode cX3_leaders 0 = .ok (.iconst 0, 1) := by decide +kernel
theorem dX3_leaders_1 : decode cX3_leaders 1 = .ok (.istore_n 1, 1) := by decide +kernel
theorem dX3_leaders_2 : decode cX3_leaders 2 = .ok (.iconst 0, 1) := by decide +kernel
theorem dX3_leaders_3 : decode cX3_leaders 3 = .ok (.istore_n 2, 1) := by decide +kernel
theorem dX3_leaders_4 : decode cX3_leaders 4 = .ok (.iload_n 2, 1) := by decide +kernel
theorem dX3_leaders_5 : decode cX3_leaders 5 = .ok (.aload_n 0, 1) := by decide +kernel
theorem dX3_leaders_6 : decode cX3_leaders 6 = .ok (.getfield 9, 3) := by decide +kernel
theorem dX3_leaders_9 : decode cX3_leaders 9 = .ok (.if_icmp .ge 20, 3) := by decide +kernel
theorem dX3_leaders_12 : decode cX3_leaders 12 = .ok (.aload_n 0, 1) := by decide +kernel
theorem dX3_leaders_13 : decode cX3_leaders 13 = .ok (.iload_n 2, 1) := by decide +kernel
theorem dX3_leaders_14 : decode cX3_leaders 14 = .ok (.invokevirtual 38, 3) := by decide +kernel
theorem dX3_leaders_17 : decode cX3_leaders 17 = .ok (.ifCond .eq 6, 3) := by decide +kernel
theorem dX3_leaders_20 : decode cX3_leaders 20 = .ok (.iinc 1 1, 3) := by decide +kernel
theorem dX3_leaders_23 : decode cX3_leaders 23 = .ok (.iinc 2 1, 3) := by decide +kernel
theorem dX3_leaders_26 : decode cX3_leaders 26 = .ok (.goto (-22), 3) := by decide +kernel
theorem dX3_leaders_29 : decode cX3_leaders 29 = .ok (.iload_n 1, 1) := by decide +kernel
theorem dX3_leaders_30 : decode cX3_leaders 30 = .ok (.ireturn, 1) := by decide +kernel
theorem dX3_trainOf_0 : decode cX3_trainOf 0 = .ok (.iconst 0, 1) := by decide +kernel
theorem dX3_trainOf_1 : decode cX3_trainOf 1 = .ok (.istore_n 2, 1) := by decide +kernel
theorem dX3_trainOf_2 : decode cX3_trainOf 2 = .ok (.iconst 0, 1) := by decide +kernel
theorem dX3_trainOf_3 : decode cX3_trainOf 3 = .ok (.istore_n 3, 1) := by decide +kernel
theorem dX3_trainOf_4 : decode cX3_trainOf 4 = .ok (.iload_n 3, 1) := by decide +kernel
theorem dX3_trainOf_5 : decode cX3_trainOf 5 = .ok (.aload_n 0, 1) := by decide +kernel
theorem dX3_trainOf_6 : decode cX3_trainOf 6 = .ok (.getfield 9, 3) := by decide +kernel
theorem dX3_trainOf_9 : decode cX3_trainOf 9 = .ok (.if_icmp .ge 27, 3) := by decide +kernel
theorem dX3_trainOf_12 : decode cX3_trainOf 12 = .ok (.aload_n 0, 1) := by decide +kernel
theorem dX3_trainOf_13 : decode cX3_trainOf 13 = .ok (.getfield 28, 3) := by decide +kernel
theorem dX3_trainOf_16 : decode cX3_trainOf 16 = .ok (.iload_n 3, 1) := by decide +kernel
theorem dX3_trainOf_17 : decode cX3_trainOf 17 = .ok (.iaload, 1) := by decide +kernel
theorem dX3_trainOf_18 : decode cX3_trainOf 18 = .ok (.aload_n 0, 1) := by decide +kernel
theorem dX3_trainOf_19 : decode cX3_trainOf 19 = .ok (.getfield 28, 3) := by decide +kernel
theorem dX3_trainOf_22 : decode cX3_trainOf 22 = .ok (.iload_n 1, 1) := by decide +kernel
theorem dX3_trainOf_23 : decode cX3_trainOf 23 = .ok (.iaload, 1) := by decide +kernel
theorem dX3_trainOf_24 : decode cX3_trainOf 24 = .ok (.if_icmp .ne 6, 3) := by decide +kernel
theorem dX3_trainOf_27 : decode cX3_trainOf 27 = .ok (.iinc 2 1, 3) := by decide +kernel
theorem dX3_trainOf_30 : decode cX3_trainOf 30 = .ok (.iinc 3 1, 3) := by decide +kernel
theorem dX3_trainOf_33 : decode cX3_trainOf 33 = .ok (.goto (-29), 3) := by decide +kernel
theorem dX3_trainOf_36 : decode cX3_trainOf 36 = .ok (.iload_n 2, 1) := by decide +kernel
theorem dX3_trainOf_37 : decode cX3_trainOf 37 = .ok (.ireturn, 1) := by decide +kernel
set_option maxRecDepth 20000 in
theorem ggX3_longestTrain_X3_leads : GoodIn wsX3_longestTrain wsX3_leads := goodIn_r _ [6, 7, 12, 13, 14, 15, 16, 17, 18] (by decide +kernel) (by decide +kernel)
set_option maxRecDepth 20000 in
theorem gX3_longestTrain_X3_leads : GoodIn wsX3_longestTrain (wsV RX3 38 RX3 yX3_leads wsX3_leads) := goodIn_app (goodIn_of _ (by decide +kernel)) ggX3_longestTrain_X3_leads
set_option maxRecDepth 20000 in
theorem ggX3_longestTrain_X3_trainOf : GoodIn wsX3_longestTrain wsX3_trainOf := goodIn_r _ [11, 1, 7, 12, 13, 14, 15, 16, 17, 18] (by decide +kernel) (by decide +kernel)
set_option maxRecDepth 20000 in
theorem gX3_longestTrain_X3_trainOf : GoodIn wsX3_longestTrain (wsV RX3 42 RX3 yX3_trainOf wsX3_trainOf) := goodIn_app (goodIn_of _ (by decide +kernel)) ggX3_longestTrain_X3_trainOf
theorem dX3_longestTrain_0 : decode cX3_longestTrain 0 = .ok (.iconst 0, 1) := by decide +kernel
theorem dX3_longestTrain_1 : decode cX3_longestTrain 1 = .ok (.istore_n 1, 1) := by decide +kernel
theorem dX3_longestTrain_2 : decode cX3_longestTrain 2 = .ok (.iconst 0, 1) := by decide +kernel
theorem dX3_longestTrain_3 : decode cX3_longestTrain 3 = .ok (.istore_n 2, 1) := by decide +kernel
theorem dX3_longestTrain_4 : decode cX3_longestTrain 4 = .ok (.iconst 0, 1) := by decide +kernel
theorem dX3_longestTrain_5 : decode cX3_longestTrain 5 = .ok (.istore_n 3, 1) := by decide +kernel
theorem dX3_longestTrain_6 : decode cX3_longestTrain 6 = .ok (.iload_n 3, 1) := by decide +kernel
theorem dX3_longestTrain_7 : decode cX3_longestTrain 7 = .ok (.aload_n 0, 1) := by decide +kernel
theorem dX3_longestTrain_8 : decode cX3_longestTrain 8 = .ok (.getfield 9, 3) := by decide +kernel
theorem dX3_longestTrain_11 : decode cX3_longestTrain 11 = .ok (.if_icmp .ge 34, 3) := by decide +kernel
theorem dX3_longestTrain_14 : decode cX3_longestTrain 14 = .ok (.aload_n 0, 1) := by decide +kernel
theorem dX3_longestTrain_15 : decode cX3_longestTrain 15 = .ok (.iload_n 3, 1) := by decide +kernel
theorem dX3_longestTrain_16 : decode cX3_longestTrain 16 = .ok (.invokevirtual 38, 3) := by decide +kernel
theorem dX3_longestTrain_19 : decode cX3_longestTrain 19 = .ok (.ifCond .eq 20, 3) := by decide +kernel
theorem dX3_longestTrain_22 : decode cX3_longestTrain 22 = .ok (.aload_n 0, 1) := by decide +kernel
theorem dX3_longestTrain_23 : decode cX3_longestTrain 23 = .ok (.iload_n 3, 1) := by decide +kernel
theorem dX3_longestTrain_24 : decode cX3_longestTrain 24 = .ok (.invokevirtual 42, 3) := by decide +kernel
theorem dX3_longestTrain_27 : decode cX3_longestTrain 27 = .ok (.iload_n 1, 1) := by decide +kernel
theorem dX3_longestTrain_28 : decode cX3_longestTrain 28 = .ok (.if_icmp .le 11, 3) := by decide +kernel
theorem dX3_longestTrain_31 : decode cX3_longestTrain 31 = .ok (.aload_n 0, 1) := by decide +kernel
theorem dX3_longestTrain_32 : decode cX3_longestTrain 32 = .ok (.iload_n 3, 1) := by decide +kernel
theorem dX3_longestTrain_33 : decode cX3_longestTrain 33 = .ok (.invokevirtual 42, 3) := by decide +kernel
theorem dX3_longestTrain_36 : decode cX3_longestTrain 36 = .ok (.istore_n 1, 1) := by decide +kernel
theorem dX3_longestTrain_37 : decode cX3_longestTrain 37 = .ok (.iload_n 3, 1) := by decide +kernel
theorem dX3_longestTrain_38 : decode cX3_longestTrain 38 = .ok (.istore_n 2, 1) := by decide +kernel
theorem dX3_longestTrain_39 : decode cX3_longestTrain 39 = .ok (.iinc 3 1, 3) := by decide +kernel
theorem dX3_longestTrain_42 : decode cX3_longestTrain 42 = .ok (.goto (-36), 3) := by decide +kernel
theorem dX3_longestTrain_45 : decode cX3_longestTrain 45 = .ok (.iload_n 2, 1) := by decide +kernel
theorem dX3_longestTrain_46 : decode cX3_longestTrain 46 = .ok (.ireturn, 1) := by decide +kernel
set_option maxRecDepth 20000 in
theorem ggX3_foretell_X2_play : GoodIn wsX3_foretell wsX2_play := goodIn_r _ [8, 9, 10, 11, 12, 13, 14, 15, 16, 7, 17, 40, 41, 42] (by decide +kernel) (by decide +kernel)
set_option maxRecDepth 20000 in
theorem gX3_foretell_X2_play : GoodIn wsX3_foretell (wsV RX3 46 RX2 yX2_play wsX2_play) := goodIn_app (goodIn_of _ (by decide +kernel)) ggX3_foretell_X2_play
set_option maxRecDepth 20000 in
theorem ggX3_foretell_X2_isTie : GoodIn wsX3_foretell wsX2_isTie := goodIn_r _ [21, 9, 10, 40, 41, 42] (by decide +kernel) (by decide +kernel)
set_option maxRecDepth 20000 in
theorem gX3_foretell_X2_isTie : GoodIn wsX3_foretell (wsV RX3 50 RX2 yX2_isTie wsX2_isTie) := goodIn_app (goodIn_of _ (by decide +kernel)) ggX3_foretell_X2_isTie
set_option maxRecDepth 20000 in
theorem ggX3_foretell_X2_firstHasBeaten : GoodIn wsX3_foretell wsX2_firstHasBeaten := goodIn_r _ [25, 9, 10, 12, 13, 14, 40, 41, 42] (by decide +kernel) (by decide +kernel)
set_option maxRecDepth 20000 in
theorem gX3_foretell_X2_firstHasBeaten : GoodIn wsX3_foretell (wsV RX3 54 RX2 yX2_firstHasBeaten wsX2_firstHasBeaten) := goodIn_app (goodIn_of _ (by decide +kernel)) ggX3_foretell_X2_firstHasBeaten
set_option maxRecDepth 20000 in
theorem ggX3_foretell_X3_trainOf : GoodIn wsX3_foretell wsX3_trainOf := goodIn_r _ [30, 31, 32, 33, 34, 35, 36, 37, 38, 39] (by decide +kernel) (by decide +kernel)
set_option maxRecDepth 20000 in
theorem gX3_foretell_X3_trainOf : GoodIn wsX3_foretell (wsV RX3 42 RX3 yX3_trainOf wsX3_trainOf) := goodIn_app (goodIn_of _ (by decide +kernel)) ggX3_foretell_X3_trainOf
theorem dX3_foretell_0 : decode cX3_foretell 0 = .ok (.aload_n 0, 1) := by decide +kernel
theorem dX3_foretell_1 : decode cX3_foretell 1 = .ok (.getfield 34, 3) := by decide +kernel
theorem dX3_foretell_4 : decode cX3_foretell 4 = .ok (.aload_n 0, 1) := by decide +kernel
theorem dX3_foretell_5 : decode cX3_foretell 5 = .ok (.getfield 21, 3) := by decide +kernel
theorem dX3_foretell_8 : decode cX3_foretell 8 = .ok (.iload_n 1, 1) := by decide +kernel
theorem dX3_foretell_9 : decode cX3_foretell 9 = .ok (.iaload, 1) := by decide +kernel
theorem dX3_foretell_10 : decode cX3_foretell 10 = .ok (.aload_n 0, 1) := by decide +kernel
theorem dX3_foretell_11 : decode cX3_foretell 11 = .ok (.getfield 25, 3) := by decide +kernel
theorem dX3_foretell_14 : decode cX3_foretell 14 = .ok (.iload_n 1, 1) := by decide +kernel
theorem dX3_foretell_15 : decode cX3_foretell 15 = .ok (.iaload, 1) := by decide +kernel
theorem dX3_foretell_16 : decode cX3_foretell 16 = .ok (.aload_n 0, 1) := by decide +kernel
theorem dX3_foretell_17 : decode cX3_foretell 17 = .ok (.getfield 21, 3) := by decide +kernel
theorem dX3_foretell_20 : decode cX3_foretell 20 = .ok (.iload_n 2, 1) := by decide +kernel
theorem dX3_foretell_21 : decode cX3_foretell 21 = .ok (.iaload, 1) := by decide +kernel
theorem dX3_foretell_22 : decode cX3_foretell 22 = .ok (.aload_n 0, 1) := by decide +kernel
theorem dX3_foretell_23 : decode cX3_foretell 23 = .ok (.getfield 25, 3) := by decide +kernel
theorem dX3_foretell_26 : decode cX3_foretell 26 = .ok (.iload_n 2, 1) := by decide +kernel
theorem dX3_foretell_27 : decode cX3_foretell 27 = .ok (.iaload, 1) := by decide +kernel
theorem dX3_foretell_28 : decode cX3_foretell 28 = .ok (.invokevirtual 46, 3) := by decide +kernel
theorem dX3_foretell_31 : decode cX3_foretell 31 = .ok (.aload_n 0, 1) := by decide +kernel
theorem dX3_foretell_32 : decode cX3_foretell 32 = .ok (.getfield 34, 3) := by decide +kernel
theorem dX3_foretell_35 : decode cX3_foretell 35 = .ok (.invokevirtual 50, 3) := by decide +kernel
theorem dX3_foretell_38 : decode cX3_foretell 38 = .ok (.ifCond .ne 19, 3) := by decide +kernel
theorem dX3_foretell_41 : decode cX3_foretell 41 = .ok (.aload_n 0, 1) := by decide +kernel
theorem dX3_foretell_42 : decode cX3_foretell 42 = .ok (.getfield 34, 3) := by decide +kernel
theorem dX3_foretell_45 : decode cX3_foretell 45 = .ok (.invokevirtual 54, 3) := by decide +kernel
theorem dX3_foretell_48 : decode cX3_foretell 48 = .ok (.ifCond .eq 7, 3) := by decide +kernel
theorem dX3_foretell_51 : decode cX3_foretell 51 = .ok (.iload_n 1, 1) := by decide +kernel
theorem dX3_foretell_52 : decode cX3_foretell 52 = .ok (.goto 4, 3) := by decide +kernel
theorem dX3_foretell_55 : decode cX3_foretell 55 = .ok (.iload_n 2, 1) := by decide +kernel
theorem dX3_foretell_56 : decode cX3_foretell 56 = .ok (.ireturn, 1) := by decide +kernel
theorem dX3_foretell_57 : decode cX3_foretell 57 = .ok (.aload_n 0, 1) := by decide +kernel
theorem dX3_foretell_58 : decode cX3_foretell 58 = .ok (.iload_n 1, 1) := by decide +kernel
theorem dX3_foretell_59 : decode cX3_foretell 59 = .ok (.invokevirtual 42, 3) := by decide +kernel
theorem dX3_foretell_62 : decode cX3_foretell 62 = .ok (.istore_n 3, 1) := by decide +kernel
theorem dX3_foretell_63 : decode cX3_foretell 63 = .ok (.aload_n 0, 1) := by decide +kernel
theorem dX3_foretell_64 : decode cX3_foretell 64 = .ok (.iload_n 2, 1) := by decide +kernel
theorem dX3_foretell_65 : decode cX3_foretell 65 = .ok (.invokevirtual 42, 3) := by decide +kernel
theorem dX3_foretell_68 : decode cX3_foretell 68 = .ok (.istore 4, 2) := by decide +kernel
theorem dX3_foretell_70 : decode cX3_foretell 70 = .ok (.iload_n 3, 1) := by decide +kernel
theorem dX3_foretell_71 : decode cX3_foretell 71 = .ok (.iload 4, 2) := by decide +kernel
theorem dX3_foretell_73 : decode cX3_foretell 73 = .ok (.if_icmp .ne 14, 3) := by decide +kernel
theorem dX3_foretell_76 : decode cX3_foretell 76 = .ok (.iload_n 1, 1) := by decide +kernel
theorem dX3_foretell_77 : decode cX3_foretell 77 = .ok (.iload_n 2, 1) := by decide +kernel
theorem dX3_foretell_78 : decode cX3_foretell 78 = .ok (.if_icmp .ge 7, 3) := by decide +kernel
theorem dX3_foretell_81 : decode cX3_foretell 81 = .ok (.iload_n 1, 1) := by decide +kernel
theorem dX3_foretell_82 : decode cX3_foretell 82 = .ok (.goto 4, 3) := by decide +kernel
theorem dX3_foretell_85 : decode cX3_foretell 85 = .ok (.iload_n 2, 1) := by decide +kernel
theorem dX3_foretell_86 : decode cX3_foretell 86 = .ok (.ireturn, 1) := by decide +kernel
theorem dX3_foretell_87 : decode cX3_foretell 87 = .ok (.iload_n 3, 1) := by decide +kernel
theorem dX3_foretell_88 : decode cX3_foretell 88 = .ok (.iload 4, 2) := by decide +kernel
theorem dX3_foretell_90 : decode cX3_foretell 90 = .ok (.if_icmp .le 7, 3) := by decide +kernel
theorem dX3_foretell_93 : decode cX3_foretell 93 = .ok (.iload_n 1, 1) := by decide +kernel
theorem dX3_foretell_94 : decode cX3_foretell 94 = .ok (.goto 4, 3) := by decide +kernel
theorem dX3_foretell_97 : decode cX3_foretell 97 = .ok (.iload_n 2, 1) := by decide +kernel
theorem dX3_foretell_98 : decode cX3_foretell 98 = .ok (.ireturn, 1) := by decide +kernel
set_option maxRecDepth 20000 in
theorem ggX3_meet_X3_foretell : GoodIn wsX3_meet wsX3_foretell := goodIn_r _ [11, 2, 12, 1, 13, 14, 15, 16, 17, 18, 19, 20, 21, 22, 23, 24, 25, 26, 27, 28, 29, 30, 31, 32, 33, 34, 35, 36, 37, 10, 38, 5, 6, 39, 40, 41, 42, 43, 44, 45, 46, 47, 48] (by decide +kernel) (by decide +kernel)
set_option maxRecDepth 20000 in
theorem gX3_meet_X3_foretell : GoodIn wsX3_meet (wsV RX3 57 RX3 yX3_foretell wsX3_foretell) := goodIn_app (goodIn_of _ (by decide +kernel)) ggX3_meet_X3_foretell
theorem dX3_meet_0 : decode cX3_meet 0 = .ok (.aload_n 0, 1) := by decide +kernel
theorem dX3_meet_1 : decode cX3_meet 1 = .ok (.iload_n 1, 1) := by decide +kernel
theorem dX3_meet_2 : decode cX3_meet 2 = .ok (.iload_n 2, 1) := by decide +kernel
theorem dX3_meet_3 : decode cX3_meet 3 = .ok (.invokevirtual 57, 3) := by decide +kernel
theorem dX3_meet_6 : decode cX3_meet 6 = .ok (.istore_n 3, 1) := by decide +kernel
theorem dX3_meet_7 : decode cX3_meet 7 = .ok (.iload_n 3, 1) := by decide +kernel
theorem dX3_meet_8 : decode cX3_meet 8 = .ok (.iload_n 1, 1) := by decide +kernel
theorem dX3_meet_9 : decode cX3_meet 9 = .ok (.if_icmp .ne 7, 3) := by decide +kernel
theorem dX3_meet_12 : decode cX3_meet 12 = .ok (.iload_n 2, 1) := by decide +kernel
theorem dX3_meet_13 : decode cX3_meet 13 = .ok (.goto 4, 3) := by decide +kernel
theorem dX3_meet_16 : decode cX3_meet 16 = .ok (.iload_n 1, 1) := by decide +kernel
theorem dX3_meet_17 : decode cX3_meet 17 = .ok (.istore 4, 2) := by decide +kernel
theorem dX3_meet_19 : decode cX3_meet 19 = .ok (.aload_n 0, 1) := by decide +kernel
theorem dX3_meet_20 : decode cX3_meet 20 = .ok (.getfield 25, 3) := by decide +kernel
theorem dX3_meet_23 : decode cX3_meet 23 = .ok (.iload_n 1, 1) := by decide +kernel
theorem dX3_meet_24 : decode cX3_meet 24 = .ok (.aload_n 0, 1) := by decide +kernel
theorem dX3_meet_25 : decode cX3_meet 25 = .ok (.getfield 34, 3) := by decide +kernel
theorem dX3_meet_28 : decode cX3_meet 28 = .ok (.getfield 61, 3) := by decide +kernel
theorem dX3_meet_31 : decode cX3_meet 31 = .ok (.iastore, 1) := by decide +kernel
theorem dX3_meet_32 : decode cX3_meet 32 = .ok (.aload_n 0, 1) := by decide +kernel
theorem dX3_meet_33 : decode cX3_meet 33 = .ok (.getfield 25, 3) := by decide +kernel
theorem dX3_meet_36 : decode cX3_meet 36 = .ok (.iload_n 2, 1) := by decide +kernel
theorem dX3_meet_37 : decode cX3_meet 37 = .ok (.aload_n 0, 1) := by decide +kernel
theorem dX3_meet_38 : decode cX3_meet 38 = .ok (.getfield 34, 3) := by decide +kernel
theorem dX3_meet_41 : decode cX3_meet 41 = .ok (.getfield 64, 3) := by decide +kernel
theorem dX3_meet_44 : decode cX3_meet 44 = .ok (.iastore, 1) := by decide +kernel
theorem dX3_meet_45 : decode cX3_meet 45 = .ok (.iconst 0, 1) := by decide +kernel
theorem dX3_meet_46 : decode cX3_meet 46 = .ok (.istore 5, 2) := by decide +kernel
theorem dX3_meet_48 : decode cX3_meet 48 = .ok (.iload 5, 2) := by decide +kernel
theorem dX3_meet_50 : decode cX3_meet 50 = .ok (.aload_n 0, 1) := by decide +kernel
theorem dX3_meet_51 : decode cX3_meet 51 = .ok (.getfield 9, 3) := by decide +kernel
theorem dX3_meet_54 : decode cX3_meet 54 = .ok (.if_icmp .ge 29, 3) := by decide +kernel
theorem dX3_meet_57 : decode cX3_meet 57 = .ok (.aload_n 0, 1) := by decide +kernel
theorem dX3_meet_58 : decode cX3_meet 58 = .ok (.getfield 28, 3) := by decide +kernel
theorem dX3_meet_61 : decode cX3_meet 61 = .ok (.iload 5, 2) := by decide +kernel
theorem dX3_meet_63 : decode cX3_meet 63 = .ok (.iaload, 1) := by decide +kernel
theorem dX3_meet_64 : decode cX3_meet 64 = .ok (.iload 4, 2) := by decide +kernel
theorem dX3_meet_66 : decode cX3_meet 66 = .ok (.if_icmp .ne 11, 3) := by decide +kernel
theorem dX3_meet_69 : decode cX3_meet 69 = .ok (.aload_n 0, 1) := by decide +kernel
theorem dX3_meet_70 : decode cX3_meet 70 = .ok (.getfield 28, 3) := by decide +kernel
theorem dX3_meet_73 : decode cX3_meet 73 = .ok (.iload 5, 2) := by decide +kernel
theorem dX3_meet_75 : decode cX3_meet 75 = .ok (.iload_n 3, 1) := by decide +kernel
theorem dX3_meet_76 : decode cX3_meet 76 = .ok (.iastore, 1) := by decide +kernel
theorem dX3_meet_77 : decode cX3_meet 77 = .ok (.iinc 5 1, 3) := by decide +kernel
theorem dX3_meet_80 : decode cX3_meet 80 = .ok (.goto (-32), 3) := by decide +kernel
theorem dX3_meet_83 : decode cX3_meet 83 = .ok (.iload_n 3, 1) := by decide +kernel
theorem dX3_meet_84 : decode cX3_meet 84 = .ok (.ireturn, 1) := by decide +kernel
set_option maxRecDepth 20000 in
theorem ggX3_playRound_X3_leads : GoodIn wsX3_playRound wsX3_leads := goodIn_r _ [14, 15, 54, 55, 56, 57, 58, 59, 60] (by decide +kernel) (by decide +kernel)
set_option maxRecDepth 20000 in
theorem gX3_playRound_X3_leads : GoodIn wsX3_playRound (wsV RX3 38 RX3 yX3_leads wsX3_leads) := goodIn_app (goodIn_of _ (by decide +kernel)) ggX3_playRound_X3_leads
set_option maxRecDepth 20000 in
theorem ggX3_playRound_X3_meet : GoodIn wsX3_playRound wsX3_meet := goodIn_r _ [19, 20, 2, 21, 22, 1, 15, 23, 24, 25, 13, 26, 27, 28, 29, 30, 31, 32, 33, 34, 35, 36, 37, 38, 39, 40, 41, 42, 43, 44, 45, 46, 47, 48, 49, 50, 51, 52, 53, 54, 55, 56, 57, 58, 59, 60, 61, 62, 63] (by decide +kernel) (by decide +kernel)
set_option maxRecDepth 20000 in
theorem gX3_playRound_X3_meet : GoodIn wsX3_playRound (wsV RX3 67 RX3 yX3_meet wsX3_meet) := goodIn_app (goodIn_of _ (by decide +kernel)) ggX3_playRound_X3_meet
theorem dX3_playRound_0 : decode cX3_playRound 0 = .ok (.iconst (-1), 1) := by decide +kernel
theorem dX3_playRound_1 : decode cX3_playRound 1 = .ok (.istore_n 1, 1) := by decide +kernel
theorem dX3_playRound_2 : decode cX3_playRound 2 = .ok (.iconst 0, 1) := by decide +kernel
theorem dX3_playRound_3 : decode cX3_playRound 3 = .ok (.istore_n 2, 1) := by decide +kernel
theorem dX3_playRound_4 : decode cX3_playRound 4 = .ok (.iconst 0, 1) := by decide +kernel
theorem dX3_playRound_5 : decode cX3_playRound 5 = .ok (.istore_n 3, 1) := by decide +kernel
theorem dX3_playRound_6 : decode cX3_playRound 6 = .ok (.iload_n 3, 1) := by decide +kernel
theorem dX3_playRound_7 : decode cX3_playRound 7 = .ok (.aload_n 0, 1) := by decide +kernel
theorem dX3_playRound_8 : decode cX3_playRound 8 = .ok (.getfield 9, 3) := by decide +kernel
theorem dX3_playRound_11 : decode cX3_playRound 11 = .ok (.if_icmp .ge 55, 3) := by decide +kernel
theorem dX3_playRound_14 : decode cX3_playRound 14 = .ok (.aload_n 0, 1) := by decide +kernel
theorem dX3_playRound_15 : decode cX3_playRound 15 = .ok (.iload_n 3, 1) := by decide +kernel
theorem dX3_playRound_16 : decode cX3_playRound 16 = .ok (.invokevirtual 38, 3) := by decide +kernel
theorem dX3_playRound_19 : decode cX3_playRound 19 = .ok (.ifCond .eq 12, 3) := by decide +kernel
theorem dX3_playRound_22 : decode cX3_playRound 22 = .ok (.iload_n 1, 1) := by decide +kernel
theorem dX3_playRound_23 : decode cX3_playRound 23 = .ok (.ifCond .ge 8, 3) := by decide +kernel
theorem dX3_playRound_26 : decode cX3_playRound 26 = .ok (.iload_n 3, 1) := by decide +kernel
theorem dX3_playRound_27 : decode cX3_playRound 27 = .ok (.istore_n 1, 1) := by decide +kernel
theorem dX3_playRound_28 : decode cX3_playRound 28 = .ok (.goto 32, 3) := by decide +kernel
theorem dX3_playRound_31 : decode cX3_playRound 31 = .ok (.aload_n 0, 1) := by decide +kernel
theorem dX3_playRound_32 : decode cX3_playRound 32 = .ok (.iload_n 3, 1) := by decide +kernel
theorem dX3_playRound_33 : decode cX3_playRound 33 = .ok (.invokevirtual 38, 3) := by decide +kernel
theorem dX3_playRound_36 : decode cX3_playRound 36 = .ok (.ifCond .eq 24, 3) := by decide +kernel
theorem dX3_playRound_39 : decode cX3_playRound 39 = .ok (.aload_n 0, 1) := by decide +kernel
theorem dX3_playRound_40 : decode cX3_playRound 40 = .ok (.iload_n 1, 1) := by decide +kernel
theorem dX3_playRound_41 : decode cX3_playRound 41 = .ok (.iload_n 3, 1) := by decide +kernel
theorem dX3_playRound_42 : decode cX3_playRound 42 = .ok (.invokevirtual 67, 3) := by decide +kernel
theorem dX3_playRound_45 : decode cX3_playRound 45 = .ok (.pop, 1) := by decide +kernel
theorem dX3_playRound_46 : decode cX3_playRound 46 = .ok (.iload_n 2, 1) := by decide +kernel
theorem dX3_playRound_47 : decode cX3_playRound 47 = .ok (.aload_n 0, 1) := by decide +kernel
theorem dX3_playRound_48 : decode cX3_playRound 48 = .ok (.getfield 34, 3) := by decide +kernel
theorem dX3_playRound_51 : decode cX3_playRound 51 = .ok (.getfield 70, 3) := by decide +kernel
theorem dX3_playRound_54 : decode cX3_playRound 54 = .ok (.invokestatic 73, 3) := by decide +kernel
theorem dX3_playRound_57 : decode cX3_playRound 57 = .ok (.istore_n 2, 1) := by decide +kernel
theorem dX3_playRound_58 : decode cX3_playRound 58 = .ok (.iconst (-1), 1) := by decide +kernel
theorem dX3_playRound_59 : decode cX3_playRound 59 = .ok (.istore_n 1, 1) := by decide +kernel
theorem dX3_playRound_60 : decode cX3_playRound 60 = .ok (.iinc 3 1, 3) := by decide +kernel
theorem dX3_playRound_63 : decode cX3_playRound 63 = .ok (.goto (-57), 3) := by decide +kernel
theorem dX3_playRound_66 : decode cX3_playRound 66 = .ok (.aload_n 0, 1) := by decide +kernel
theorem dX3_playRound_67 : decode cX3_playRound 67 = .ok (.dup, 1) := by decide +kernel
theorem dX3_playRound_68 : decode cX3_playRound 68 = .ok (.getfield 15, 3) := by decide +kernel
theorem dX3_playRound_71 : decode cX3_playRound 71 = .ok (.iconst 1, 1) := by decide +kernel
theorem dX3_playRound_72 : decode cX3_playRound 72 = .ok (.iadd, 1) := by decide +kernel
theorem dX3_playRound_73 : decode cX3_playRound 73 = .ok (.putfield 15, 3) := by decide +kernel
theorem dX3_playRound_76 : decode cX3_playRound 76 = .ok (.aload_n 0, 1) := by decide +kernel
theorem dX3_playRound_77 : decode cX3_playRound 77 = .ok (.dup, 1) := by decide +kernel
theorem dX3_playRound_78 : decode cX3_playRound 78 = .ok (.getfield 18, 3) := by decide +kernel
theorem dX3_playRound_81 : decode cX3_playRound 81 = .ok (.iload_n 2, 1) := by decide +kernel
theorem dX3_playRound_82 : decode cX3_playRound 82 = .ok (.iadd, 1) := by decide +kernel
theorem dX3_playRound_83 : decode cX3_playRound 83 = .ok (.putfield 18, 3) := by decide +kernel
theorem dX3_playRound_86 : decode cX3_playRound 86 = .ok (.return_, 1) := by decide +kernel
set_option maxRecDepth 20000 in
theorem ggX3_playToTheEnd_X3_leaders : GoodIn wsX3_playToTheEnd wsX3_leaders := goodIn_r _ [5, 6, 7, 8, 9, 4, 10, 11, 62, 63, 64, 65, 66, 67, 68] (by decide +kernel) (by decide +kernel)
set_option maxRecDepth 20000 in
theorem gX3_playToTheEnd_X3_leaders : GoodIn wsX3_playToTheEnd (wsV RX3 78 RX3 yX3_leaders wsX3_leaders) := goodIn_app (goodIn_of _ (by decide +kernel)) ggX3_playToTheEnd_X3_leaders
set_option maxRecDepth 20000 in
theorem ggX3_playToTheEnd_X3_playRound : GoodIn wsX3_playToTheEnd wsX3_playRound := goodIn_r _ [15, 6, 16, 17, 18, 19, 20, 21, 22, 23, 7, 8, 9, 4, 10, 11, 24, 25, 26, 27, 28, 29, 30, 31, 32, 33, 34, 35, 36, 37, 38, 39, 40, 41, 42, 43, 44, 45, 46, 47, 48, 49, 50, 51, 52, 53, 54, 55, 56, 57, 58, 59, 60, 61, 62, 63, 64, 65, 66, 67, 68, 69, 70, 71] (by decide +kernel) (by decide +kernel)
set_option maxRecDepth 20000 in
theorem gX3_playToTheEnd_X3_playRound : GoodIn wsX3_playToTheEnd (wsV RX3 82 RX3 yX3_playRound wsX3_playRound) := goodIn_app (goodIn_of _ (by decide +kernel)) ggX3_playToTheEnd_X3_playRound
theorem dX3_playToTheEnd_0 : decode cX3_playToTheEnd 0 = .ok (.iconst 0, 1) := by decide +kernel
theorem dX3_playToTheEnd_1 : decode cX3_playToTheEnd 1 = .ok (.istore_n 1, 1) := by decide +kernel
theorem dX3_playToTheEnd_2 : decode cX3_playToTheEnd 2 = .ok (.iload_n 1, 1) := by decide +kernel
theorem dX3_playToTheEnd_3 : decode cX3_playToTheEnd 3 = .ok (.bipush 8, 2) := by decide +kernel
theorem dX3_playToTheEnd_5 : decode cX3_playToTheEnd 5 = .ok (.if_icmp .ge 21, 3) := by decide +kernel
theorem dX3_playToTheEnd_8 : decode cX3_playToTheEnd 8 = .ok (.aload_n 0, 1) := by decide +kernel
theorem dX3_playToTheEnd_9 : decode cX3_playToTheEnd 9 = .ok (.invokevirtual 78, 3) := by decide +kernel
theorem dX3_playToTheEnd_12 : decode cX3_playToTheEnd 12 = .ok (.iconst 1, 1) := by decide +kernel
theorem dX3_playToTheEnd_13 : decode cX3_playToTheEnd 13 = .ok (.if_icmp .le 13, 3) := by decide +kernel
theorem dX3_playToTheEnd_16 : decode cX3_playToTheEnd 16 = .ok (.aload_n 0, 1) := by decide +kernel
theorem dX3_playToTheEnd_17 : decode cX3_playToTheEnd 17 = .ok (.invokevirtual 82, 3) := by decide +kernel
theorem dX3_playToTheEnd_20 : decode cX3_playToTheEnd 20 = .ok (.iinc 1 1, 3) := by decide +kernel
theorem dX3_playToTheEnd_23 : decode cX3_playToTheEnd 23 = .ok (.goto (-21), 3) := by decide +kernel
theorem dX3_playToTheEnd_26 : decode cX3_playToTheEnd 26 = .ok (.return_, 1) := by decide +kernel
set_option maxRecDepth 20000 in
theorem ggX3_roundsLed_X3_leaders : GoodIn wsX3_roundsLed wsX3_leaders := goodIn_r _ [5, 6, 7, 8, 9, 4, 10, 11, 62, 63, 64, 65, 66, 67, 68] (by decide +kernel) (by decide +kernel)
set_option maxRecDepth 20000 in
theorem gX3_roundsLed_X3_leaders : GoodIn wsX3_roundsLed (wsV RX3 78 RX3 yX3_leaders wsX3_leaders) := goodIn_app (goodIn_of _ (by decide +kernel)) ggX3_roundsLed_X3_leaders
set_option maxRecDepth 20000 in
theorem ggX3_roundsLed_X3_playRound : GoodIn wsX3_roundsLed wsX3_playRound := goodIn_r _ [15, 6, 16, 17, 18, 19, 20, 21, 22, 23, 7, 8, 9, 4, 10, 11, 24, 25, 26, 27, 28, 29, 30, 31, 32, 33, 34, 35, 36, 37, 38, 39, 40, 41, 42, 43, 44, 45, 46, 47, 48, 49, 50, 51, 52, 53, 54, 55, 56, 57, 58, 59, 60, 61, 62, 63, 64, 65, 66, 67, 68, 69, 70, 71] (by decide +kernel) (by decide +kernel)
set_option maxRecDepth 20000 in
theorem gX3_roundsLed_X3_playRound : GoodIn wsX3_roundsLed (wsV RX3 82 RX3 yX3_playRound wsX3_playRound) := goodIn_app (goodIn_of _ (by decide +kernel)) ggX3_roundsLed_X3_playRound
set_option maxRecDepth 20000 in
theorem ggX3_roundsLed_X3_leads : GoodIn wsX3_roundsLed wsX3_leads := goodIn_r _ [10, 11, 62, 63, 64, 65, 66, 67, 68] (by decide +kernel) (by decide +kernel)
set_option maxRecDepth 20000 in
theorem gX3_roundsLed_X3_leads : GoodIn wsX3_roundsLed (wsV RX3 38 RX3 yX3_leads wsX3_leads) := goodIn_app (goodIn_of _ (by decide +kernel)) ggX3_roundsLed_X3_leads
theorem dX3_roundsLed_0 : decode cX3_roundsLed 0 = .ok (.iconst 0, 1) := by decide +kernel
theorem dX3_roundsLed_1 : decode cX3_roundsLed 1 = .ok (.istore_n 2, 1) := by decide +kernel
theorem dX3_roundsLed_2 : decode cX3_roundsLed 2 = .ok (.iload_n 2, 1) := by decide +kernel
theorem dX3_roundsLed_3 : decode cX3_roundsLed 3 = .ok (.bipush 8, 2) := by decide +kernel
theorem dX3_roundsLed_5 : decode cX3_roundsLed 5 = .ok (.if_icmp .ge 31, 3) := by decide +kernel
theorem dX3_roundsLed_8 : decode cX3_roundsLed 8 = .ok (.aload_n 0, 1) := by decide +kernel
theorem dX3_roundsLed_9 : decode cX3_roundsLed 9 = .ok (.invokevirtual 78, 3) := by decide +kernel
theorem dX3_roundsLed_12 : decode cX3_roundsLed 12 = .ok (.iconst 1, 1) := by decide +kernel
theorem dX3_roundsLed_13 : decode cX3_roundsLed 13 = .ok (.if_icmp .le 23, 3) := by decide +kernel
theorem dX3_roundsLed_16 : decode cX3_roundsLed 16 = .ok (.aload_n 0, 1) := by decide +kernel
theorem dX3_roundsLed_17 : decode cX3_roundsLed 17 = .ok (.invokevirtual 82, 3) := by decide +kernel
theorem dX3_roundsLed_20 : decode cX3_roundsLed 20 = .ok (.aload_n 0, 1) := by decide +kernel
theorem dX3_roundsLed_21 : decode cX3_roundsLed 21 = .ok (.iload_n 1, 1) := by decide +kernel
theorem dX3_roundsLed_22 : decode cX3_roundsLed 22 = .ok (.invokevirtual 38, 3) := by decide +kernel
theorem dX3_roundsLed_25 : decode cX3_roundsLed 25 = .ok (.ifCond .ne 5, 3) := by decide +kernel
theorem dX3_roundsLed_28 : decode cX3_roundsLed 28 = .ok (.iload_n 2, 1) := by decide +kernel
theorem dX3_roundsLed_29 : decode cX3_roundsLed 29 = .ok (.ireturn, 1) := by decide +kernel
theorem dX3_roundsLed_30 : decode cX3_roundsLed 30 = .ok (.iinc 2 1, 3) := by decide +kernel
theorem dX3_roundsLed_33 : decode cX3_roundsLed 33 = .ok (.goto (-31), 3) := by decide +kernel
theorem dX3_roundsLed_36 : decode cX3_roundsLed 36 = .ok (.bipush 8, 2) := by decide +kernel
theorem dX3_roundsLed_38 : decode cX3_roundsLed 38 = .ok (.ireturn, 1) := by decide +kernel
