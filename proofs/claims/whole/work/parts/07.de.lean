theorem dX9_hands_1 : decode cX9_hands 1 = .ok (.invokevirtual 174, 3) := by decide +kernel
theorem dX9_hands_4 : decode cX9_hands 4 = .ok (.ifCond .ne 6, 3) := by decide +kernel
theorem dX9_hands_7 : decode cX9_hands 7 = .ok (.ldc 213, 2) := by decide +kernel
theorem dX9_hands_9 : decode cX9_hands 9 = .ok (.ireturn, 1) := by decide +kernel
theorem dX9_hands_10 : decode cX9_hands 10 = .ok (.iload_n 1, 1) := by decide +kernel
theorem dX9_hands_11 : decode cX9_hands 11 = .ok (.invokestatic 73, 3) := by decide +kernel
theorem dX9_hands_14 : decode cX9_hands 14 = .ok (.ifCond .ne 6, 3) := by decide +kernel
theorem dX9_hands_17 : decode cX9_hands 17 = .ok (.ldc 79, 2) := by decide +kernel
theorem dX9_hands_19 : decode cX9_hands 19 = .ok (.ireturn, 1) := by decide +kernel
theorem dX9_hands_20 : decode cX9_hands 20 = .ok (.aload_n 0, 1) := by decide +kernel
theorem dX9_hands_21 : decode cX9_hands 21 = .ok (.getfield 32, 3) := by decide +kernel
theorem dX9_hands_24 : decode cX9_hands 24 = .ok (.iload_n 1, 1) := by decide +kernel
theorem dX9_hands_25 : decode cX9_hands 25 = .ok (.baload, 1) := by decide +kernel
theorem dX9_hands_26 : decode cX9_hands 26 = .ok (.ifCond .ne 9, 3) := by decide +kernel
theorem dX9_hands_29 : decode cX9_hands 29 = .ok (.aload_n 0, 1) := by decide +kernel
theorem dX9_hands_30 : decode cX9_hands 30 = .ok (.iconst 1, 1) := by decide +kernel
theorem dX9_hands_31 : decode cX9_hands 31 = .ok (.invokevirtual 80, 3) := by decide +kernel
theorem dX9_hands_34 : decode cX9_hands 34 = .ok (.ireturn, 1) := by decide +kernel
theorem dX9_hands_35 : decode cX9_hands 35 = .ok (.aload_n 0, 1) := by decide +kernel
theorem dX9_hands_36 : decode cX9_hands 36 = .ok (.getfield 29, 3) := by decide +kernel
theorem dX9_hands_39 : decode cX9_hands 39 = .ok (.iload_n 1, 1) := by decide +kernel
theorem dX9_hands_40 : decode cX9_hands 40 = .ok (.iaload, 1) := by decide +kernel
theorem dX9_hands_41 : decode cX9_hands 41 = .ok (.aload_n 0, 1) := by decide +kernel
theorem dX9_hands_42 : decode cX9_hands 42 = .ok (.invokevirtual 174, 3) := by decide +kernel
theorem dX9_hands_45 : decode cX9_hands 45 = .ok (.if_icmp .ge 9, 3) := by decide +kernel
theorem dX9_hands_48 : decode cX9_hands 48 = .ok (.aload_n 0, 1) := by decide +kernel
theorem dX9_hands_49 : decode cX9_hands 49 = .ok (.iconst 2, 1) := by decide +kernel
theorem dX9_hands_50 : decode cX9_hands 50 = .ok (.invokevirtual 80, 3) := by decide +kernel
theorem dX9_hands_53 : decode cX9_hands 53 = .ok (.ireturn, 1) := by decide +kernel
theorem dX9_hands_54 : decode cX9_hands 54 = .ok (.iconst 1, 1) := by decide +kernel
theorem dX9_hands_55 : decode cX9_hands 55 = .ok (.istore_n 2, 1) := by decide +kernel
theorem dX9_hands_56 : decode cX9_hands 56 = .ok (.iconst 0, 1) := by decide +kernel
theorem dX9_hands_57 : decode cX9_hands 57 = .ok (.istore_n 3, 1) := by decide +kernel
theorem dX9_hands_58 : decode cX9_hands 58 = .ok (.iload_n 3, 1) := by decide +kernel
theorem dX9_hands_59 : decode cX9_hands 59 = .ok (.aload_n 0, 1) := by decide +kernel
theorem dX9_hands_60 : decode cX9_hands 60 = .ok (.invokevirtual 174, 3) := by decide +kernel
theorem dX9_hands_63 : decode cX9_hands 63 = .ok (.if_icmp .ge 41, 3) := by decide +kernel
theorem dX9_hands_66 : decode cX9_hands 66 = .ok (.iload_n 2, 1) := by decide +kernel
theorem dX9_hands_67 : decode cX9_hands 67 = .ok (.ifCond .eq 29, 3) := by decide +kernel
theorem dX9_hands_70 : decode cX9_hands 70 = .ok (.aload_n 0, 1) := by decide +kernel
theorem dX9_hands_71 : decode cX9_hands 71 = .ok (.getfield 35, 3) := by decide +kernel
theorem dX9_hands_74 : decode cX9_hands 74 = .ok (.bipush 40, 2) := by decide +kernel
theorem dX9_hands_76 : decode cX9_hands 76 = .ok (.iload_n 1, 1) := by decide +kernel
theorem dX9_hands_77 : decode cX9_hands 77 = .ok (.imul, 1) := by decide +kernel
theorem dX9_hands_78 : decode cX9_hands 78 = .ok (.iload_n 3, 1) := by decide +kernel
theorem dX9_hands_79 : decode cX9_hands 79 = .ok (.iadd, 1) := by decide +kernel
theorem dX9_hands_80 : decode cX9_hands 80 = .ok (.iaload, 1) := by decide +kernel
theorem dX9_hands_81 : decode cX9_hands 81 = .ok (.i2l, 1) := by decide +kernel
theorem dX9_hands_82 : decode cX9_hands 82 = .ok (.lconst 0, 1) := by decide +kernel
theorem dX9_hands_83 : decode cX9_hands 83 = .ok (.ldc2_w 77, 3) := by decide +kernel
theorem dX9_hands_86 : decode cX9_hands 86 = .ok (.invokestatic 69, 3) := by decide +kernel
theorem dX9_hands_89 : decode cX9_hands 89 = .ok (.ifCond .eq 7, 3) := by decide +kernel
theorem dX9_hands_92 : decode cX9_hands 92 = .ok (.iconst 1, 1) := by decide +kernel
theorem dX9_hands_93 : decode cX9_hands 93 = .ok (.goto 4, 3) := by decide +kernel
theorem dX9_hands_96 : decode cX9_hands 96 = .ok (.iconst 0, 1) := by decide +kernel
theorem dX9_hands_97 : decode cX9_hands 97 = .ok (.istore_n 2, 1) := by decide +kernel
theorem dX9_hands_98 : decode cX9_hands 98 = .ok (.iinc 3 1, 3) := by decide +kernel
theorem dX9_hands_101 : decode cX9_hands 101 = .ok (.goto (-43), 3) := by decide +kernel
theorem dX9_hands_104 : decode cX9_hands 104 = .ok (.iload_n 2, 1) := by decide +kernel
theorem dX9_hands_105 : decode cX9_hands 105 = .ok (.ifCond .ne 6, 3) := by decide +kernel
theorem dX9_hands_108 : decode cX9_hands 108 = .ok (.ldc 79, 2) := by decide +kernel
theorem dX9_hands_110 : decode cX9_hands 110 = .ok (.ireturn, 1) := by decide +kernel
theorem dX9_hands_111 : decode cX9_hands 111 = .ok (.aload_n 0, 1) := by decide +kernel
theorem dX9_hands_112 : decode cX9_hands 112 = .ok (.invokevirtual 217, 3) := by decide +kernel
theorem dX9_hands_115 : decode cX9_hands 115 = .ok (.iconst 0, 1) := by decide +kernel
theorem dX9_hands_116 : decode cX9_hands 116 = .ok (.istore_n 3, 1) := by decide +kernel
theorem dX9_hands_117 : decode cX9_hands 117 = .ok (.iconst 0, 1) := by decide +kernel
theorem dX9_hands_118 : decode cX9_hands 118 = .ok (.istore 4, 2) := by decide +kernel
theorem dX9_hands_120 : decode cX9_hands 120 = .ok (.iload 4, 2) := by decide +kernel
theorem dX9_hands_122 : decode cX9_hands 122 = .ok (.aload_n 0, 1) := by decide +kernel
theorem dX9_hands_123 : decode cX9_hands 123 = .ok (.invokevirtual 174, 3) := by decide +kernel
theorem dX9_hands_126 : decode cX9_hands 126 = .ok (.if_icmp .ge 64, 3) := by decide +kernel
theorem dX9_hands_129 : decode cX9_hands 129 = .ok (.iload_n 3, 1) := by decide +kernel
theorem dX9_hands_130 : decode cX9_hands 130 = .ok (.aload_n 0, 1) := by decide +kernel
theorem dX9_hands_131 : decode cX9_hands 131 = .ok (.getfield 7, 3) := by decide +kernel
theorem dX9_hands_134 : decode cX9_hands 134 = .ok (.bipush 9, 2) := by decide +kernel
theorem dX9_hands_136 : decode cX9_hands 136 = .ok (.iload 4, 2) := by decide +kernel
theorem dX9_hands_138 : decode cX9_hands 138 = .ok (.iadd, 1) := by decide +kernel
theorem dX9_hands_139 : decode cX9_hands 139 = .ok (.iaload, 1) := by decide +kernel
theorem dX9_hands_140 : decode cX9_hands 140 = .ok (.aload_n 0, 1) := by decide +kernel
theorem dX9_hands_141 : decode cX9_hands 141 = .ok (.getfield 35, 3) := by decide +kernel
theorem dX9_hands_144 : decode cX9_hands 144 = .ok (.bipush 40, 2) := by decide +kernel
theorem dX9_hands_146 : decode cX9_hands 146 = .ok (.iload_n 1, 1) := by decide +kernel
theorem dX9_hands_147 : decode cX9_hands 147 = .ok (.imul, 1) := by decide +kernel
theorem dX9_hands_148 : decode cX9_hands 148 = .ok (.iload 4, 2) := by decide +kernel
theorem dX9_hands_150 : decode cX9_hands 150 = .ok (.iadd, 1) := by decide +kernel
theorem dX9_hands_151 : decode cX9_hands 151 = .ok (.iaload, 1) := by decide +kernel
theorem dX9_hands_152 : decode cX9_hands 152 = .ok (.if_icmp .ne 7, 3) := by decide +kernel
theorem dX9_hands_155 : decode cX9_hands 155 = .ok (.iconst 0, 1) := by decide +kernel
theorem dX9_hands_156 : decode cX9_hands 156 = .ok (.goto 4, 3) := by decide +kernel
theorem dX9_hands_159 : decode cX9_hands 159 = .ok (.iconst 1, 1) := by decide +kernel
theorem dX9_hands_160 : decode cX9_hands 160 = .ok (.iadd, 1) := by decide +kernel
theorem dX9_hands_161 : decode cX9_hands 161 = .ok (.istore_n 3, 1) := by decide +kernel
theorem dX9_hands_162 : decode cX9_hands 162 = .ok (.aload_n 0, 1) := by decide +kernel
theorem dX9_hands_163 : decode cX9_hands 163 = .ok (.getfield 7, 3) := by decide +kernel
theorem dX9_hands_166 : decode cX9_hands 166 = .ok (.bipush 9, 2) := by decide +kernel
theorem dX9_hands_168 : decode cX9_hands 168 = .ok (.iload 4, 2) := by decide +kernel
theorem dX9_hands_170 : decode cX9_hands 170 = .ok (.iadd, 1) := by decide +kernel
theorem dX9_hands_171 : decode cX9_hands 171 = .ok (.aload_n 0, 1) := by decide +kernel
theorem dX9_hands_172 : decode cX9_hands 172 = .ok (.getfield 35, 3) := by decide +kernel
theorem dX9_hands_175 : decode cX9_hands 175 = .ok (.bipush 40, 2) := by decide +kernel
theorem dX9_hands_177 : decode cX9_hands 177 = .ok (.iload_n 1, 1) := by decide +kernel
theorem dX9_hands_178 : decode cX9_hands 178 = .ok (.imul, 1) := by decide +kernel
theorem dX9_hands_179 : decode cX9_hands 179 = .ok (.iload 4, 2) := by decide +kernel
theorem dX9_hands_181 : decode cX9_hands 181 = .ok (.iadd, 1) := by decide +kernel
theorem dX9_hands_182 : decode cX9_hands 182 = .ok (.iaload, 1) := by decide +kernel
theorem dX9_hands_183 : decode cX9_hands 183 = .ok (.iastore, 1) := by decide +kernel
theorem dX9_hands_184 : decode cX9_hands 184 = .ok (.iinc 4 1, 3) := by decide +kernel
theorem dX9_hands_187 : decode cX9_hands 187 = .ok (.goto (-67), 3) := by decide +kernel
theorem dX9_hands_190 : decode cX9_hands 190 = .ok (.aload_n 0, 1) := by decide +kernel
theorem dX9_hands_191 : decode cX9_hands 191 = .ok (.iload_n 3, 1) := by decide +kernel
theorem dX9_hands_192 : decode cX9_hands 192 = .ok (.invokevirtual 84, 3) := by decide +kernel
theorem dX9_hands_195 : decode cX9_hands 195 = .ok (.ireturn, 1) := by decide +kernel
theorem dX9_undo_0 : decode cX9_undo 0 = .ok (.aload_n 0, 1) := by decide +kernel
theorem dX9_undo_1 : decode cX9_undo 1 = .ok (.getfield 171, 3) := by decide +kernel
theorem dX9_undo_4 : decode cX9_undo 4 = .ok (.ifCond .ne 6, 3) := by decide +kernel
theorem dX9_undo_7 : decode cX9_undo 7 = .ok (.ldc 213, 2) := by decide +kernel
theorem dX9_undo_9 : decode cX9_undo 9 = .ok (.ireturn, 1) := by decide +kernel
theorem dX9_undo_10 : decode cX9_undo 10 = .ok (.aload_n 0, 1) := by decide +kernel
theorem dX9_undo_11 : decode cX9_undo 11 = .ok (.dup, 1) := by decide +kernel
theorem dX9_undo_12 : decode cX9_undo 12 = .ok (.getfield 171, 3) := by decide +kernel
theorem dX9_undo_15 : decode cX9_undo 15 = .ok (.iconst 1, 1) := by decide +kernel
theorem dX9_undo_16 : decode cX9_undo 16 = .ok (.isub, 1) := by decide +kernel
theorem dX9_undo_17 : decode cX9_undo 17 = .ok (.putfield 171, 3) := by decide +kernel
theorem dX9_undo_20 : decode cX9_undo 20 = .ok (.iconst 0, 1) := by decide +kernel
theorem dX9_undo_21 : decode cX9_undo 21 = .ok (.istore_n 1, 1) := by decide +kernel
theorem dX9_undo_22 : decode cX9_undo 22 = .ok (.iload_n 1, 1) := by decide +kernel
theorem dX9_undo_23 : decode cX9_undo 23 = .ok (.bipush 27, 2) := by decide +kernel
theorem dX9_undo_25 : decode cX9_undo 25 = .ok (.if_icmp .ge 29, 3) := by decide +kernel
theorem dX9_undo_28 : decode cX9_undo 28 = .ok (.aload_n 0, 1) := by decide +kernel
theorem dX9_undo_29 : decode cX9_undo 29 = .ok (.getfield 7, 3) := by decide +kernel
theorem dX9_undo_32 : decode cX9_undo 32 = .ok (.iload_n 1, 1) := by decide +kernel
theorem dX9_undo_33 : decode cX9_undo 33 = .ok (.aload_n 0, 1) := by decide +kernel
theorem dX9_undo_34 : decode cX9_undo 34 = .ok (.getfield 20, 3) := by decide +kernel
theorem dX9_undo_37 : decode cX9_undo 37 = .ok (.bipush 27, 2) := by decide +kernel
theorem dX9_undo_39 : decode cX9_undo 39 = .ok (.aload_n 0, 1) := by decide +kernel
theorem dX9_undo_40 : decode cX9_undo 40 = .ok (.getfield 171, 3) := by decide +kernel
theorem dX9_undo_43 : decode cX9_undo 43 = .ok (.imul, 1) := by decide +kernel
theorem dX9_undo_44 : decode cX9_undo 44 = .ok (.iload_n 1, 1) := by decide +kernel
theorem dX9_undo_45 : decode cX9_undo 45 = .ok (.iadd, 1) := by decide +kernel
theorem dX9_undo_46 : decode cX9_undo 46 = .ok (.iaload, 1) := by decide +kernel
theorem dX9_undo_47 : decode cX9_undo 47 = .ok (.iastore, 1) := by decide +kernel
theorem dX9_undo_48 : decode cX9_undo 48 = .ok (.iinc 1 1, 3) := by decide +kernel
theorem dX9_undo_51 : decode cX9_undo 51 = .ok (.goto (-29), 3) := by decide +kernel
theorem dX9_undo_54 : decode cX9_undo 54 = .ok (.aload_n 0, 1) := by decide +kernel
theorem dX9_undo_55 : decode cX9_undo 55 = .ok (.getfield 171, 3) := by decide +kernel
theorem dX9_undo_58 : decode cX9_undo 58 = .ok (.ireturn, 1) := by decide +kernel
set_option maxRecDepth 20000 in
theorem ggX9_player_X9_isPlayer : GoodIn wsX9_player wsX9_isPlayer := goodIn_r _ [8, 9, 10, 11, 7, 12, 3, 13, 14, 15, 20, 21, 22, 23, 24, 25, 26, 27, 28, 29, 30, 31, 32, 33, 34, 35, 36, 37, 38, 39, 40, 41, 42, 43, 44, 45, 46, 47, 48, 49, 50] (by decide +kernel) (by decide +kernel)
set_option maxRecDepth 20000 in
theorem gX9_player_X9_isPlayer : GoodIn wsX9_player (wsV RX9 210 RX9 yX9_isPlayer wsX9_isPlayer) := goodIn_app (goodIn_of _ (by decide +kernel)) ggX9_player_X9_isPlayer
set_option maxRecDepth 20000 in
theorem ggX9_player_X9_in : GoodIn wsX9_player wsX9_in := goodIn_r _ [15] (by decide +kernel) (by decide +kernel)
set_option maxRecDepth 20000 in
theorem gX9_player_X9_in : GoodIn wsX9_player (va_wsS RX9 69 yX9_in wsX9_in) := goodIn_app (goodIn_of _ (by decide +kernel)) ggX9_player_X9_in
set_option maxRecDepth 20000 in
theorem ggX9_player_X9_sizeOf : GoodIn wsX9_player wsX9_sizeOf := goodIn_r _ [19, 3, 9, 10, 11, 7, 12, 20, 21, 22, 23, 24, 25, 26, 27, 28, 29, 30, 31, 32, 33, 34, 35, 36, 37, 38, 39, 40, 41, 42, 43, 44, 45, 46, 47, 48, 49, 50] (by decide +kernel) (by decide +kernel)
set_option maxRecDepth 20000 in
theorem gX9_player_X9_sizeOf : GoodIn wsX9_player (wsV RX9 196 RX9 yX9_sizeOf wsX9_sizeOf) := goodIn_app (goodIn_of _ (by decide +kernel)) ggX9_player_X9_sizeOf
theorem dX9_player_0 : decode cX9_player 0 = .ok (.aload_n 0, 1) := by decide +kernel
theorem dX9_player_1 : decode cX9_player 1 = .ok (.iload_n 1, 1) := by decide +kernel
theorem dX9_player_2 : decode cX9_player 2 = .ok (.invokevirtual 210, 3) := by decide +kernel
theorem dX9_player_5 : decode cX9_player 5 = .ok (.ifCond .eq 15, 3) := by decide +kernel
theorem dX9_player_8 : decode cX9_player 8 = .ok (.iload_n 2, 1) := by decide +kernel
theorem dX9_player_9 : decode cX9_player 9 = .ok (.i2l, 1) := by decide +kernel
theorem dX9_player_10 : decode cX9_player 10 = .ok (.lconst 0, 1) := by decide +kernel
theorem dX9_player_11 : decode cX9_player 11 = .ok (.ldc2_w 77, 3) := by decide +kernel
theorem dX9_player_14 : decode cX9_player 14 = .ok (.invokestatic 69, 3) := by decide +kernel
theorem dX9_player_17 : decode cX9_player 17 = .ok (.ifCond .ne 6, 3) := by decide +kernel
theorem dX9_player_20 : decode cX9_player 20 = .ok (.ldc 79, 2) := by decide +kernel
theorem dX9_player_22 : decode cX9_player 22 = .ok (.ireturn, 1) := by decide +kernel
theorem dX9_player_23 : decode cX9_player 23 = .ok (.aload_n 0, 1) := by decide +kernel
theorem dX9_player_24 : decode cX9_player 24 = .ok (.getfield 7, 3) := by decide +kernel
theorem dX9_player_27 : decode cX9_player 27 = .ok (.bipush 17, 2) := by decide +kernel
theorem dX9_player_29 : decode cX9_player 29 = .ok (.iload_n 1, 1) := by decide +kernel
theorem dX9_player_30 : decode cX9_player 30 = .ok (.iadd, 1) := by decide +kernel
theorem dX9_player_31 : decode cX9_player 31 = .ok (.iaload, 1) := by decide +kernel
theorem dX9_player_32 : decode cX9_player 32 = .ok (.istore_n 3, 1) := by decide +kernel
theorem dX9_player_33 : decode cX9_player 33 = .ok (.iload_n 2, 1) := by decide +kernel
theorem dX9_player_34 : decode cX9_player 34 = .ok (.ifCond .ne 15, 3) := by decide +kernel
theorem dX9_player_37 : decode cX9_player 37 = .ok (.aload_n 0, 1) := by decide +kernel
theorem dX9_player_38 : decode cX9_player 38 = .ok (.getfield 7, 3) := by decide +kernel
theorem dX9_player_41 : decode cX9_player 41 = .ok (.bipush 9, 2) := by decide +kernel
theorem dX9_player_43 : decode cX9_player 43 = .ok (.iload_n 1, 1) := by decide +kernel
theorem dX9_player_44 : decode cX9_player 44 = .ok (.iadd, 1) := by decide +kernel
theorem dX9_player_45 : decode cX9_player 45 = .ok (.iaload, 1) := by decide +kernel
theorem dX9_player_46 : decode cX9_player 46 = .ok (.goto 17, 3) := by decide +kernel
theorem dX9_player_49 : decode cX9_player 49 = .ok (.iload_n 2, 1) := by decide +kernel
theorem dX9_player_50 : decode cX9_player 50 = .ok (.iconst 1, 1) := by decide +kernel
theorem dX9_player_51 : decode cX9_player 51 = .ok (.if_icmp .ne 7, 3) := by decide +kernel
theorem dX9_player_54 : decode cX9_player 54 = .ok (.iload_n 3, 1) := by decide +kernel
theorem dX9_player_55 : decode cX9_player 55 = .ok (.goto 8, 3) := by decide +kernel
theorem dX9_player_58 : decode cX9_player 58 = .ok (.aload_n 0, 1) := by decide +kernel
theorem dX9_player_59 : decode cX9_player 59 = .ok (.iload_n 3, 1) := by decide +kernel
theorem dX9_player_60 : decode cX9_player 60 = .ok (.invokevirtual 196, 3) := by decide +kernel
theorem dX9_player_63 : decode cX9_player 63 = .ok (.ireturn, 1) := by decide +kernel
set_option maxRecDepth 20000 in
theorem ggX9_beats_X9_in : GoodIn wsX9_beats wsX9_in := goodIn_r _ [7] (by decide +kernel) (by decide +kernel)
set_option maxRecDepth 20000 in
theorem gX9_beats_X9_in : GoodIn wsX9_beats (va_wsS RX9 69 yX9_in wsX9_in) := goodIn_app (goodIn_of _ (by decide +kernel)) ggX9_beats_X9_in
set_option maxRecDepth 20000 in
theorem ggX9_beats_X9_notTwo : GoodIn wsX9_beats wsX9_notTwo := goodIn_r _ [11, 1, 12, 13, 14, 15, 6, 16, 17, 18, 19, 20, 21, 4, 5, 7, 22, 23, 24, 25, 43, 44, 45, 46, 47, 48, 49, 50, 51, 52, 53, 54, 55, 56, 57, 58, 59, 60, 61, 62, 63, 64, 65, 66, 67, 68, 69, 70, 71, 72, 73] (by decide +kernel) (by decide +kernel)
set_option maxRecDepth 20000 in
theorem gX9_beats_X9_notTwo : GoodIn wsX9_beats (wsV RX9 214 RX9 yX9_notTwo wsX9_notTwo) := goodIn_app (goodIn_of _ (by decide +kernel)) ggX9_beats_X9_notTwo
set_option maxRecDepth 20000 in
theorem ggX9_beats_X9_play : GoodIn wsX9_beats wsX9_play := goodIn_r _ [29, 21, 30, 31, 3, 2, 32, 33, 6, 34, 35, 36, 37, 38, 39, 40, 41, 42, 17, 18, 19, 20, 43, 44, 45, 46, 47, 48, 49, 50, 51, 52, 53, 54, 55, 56, 57, 58, 59, 60, 61, 62, 63, 64, 65, 66, 67, 68, 69, 70, 71, 72, 73] (by decide +kernel) (by decide +kernel)
set_option maxRecDepth 20000 in
theorem gX9_beats_X9_play : GoodIn wsX9_beats (wsV RX9 202 RX9 yX9_play wsX9_play) := goodIn_app (goodIn_of _ (by decide +kernel)) ggX9_beats_X9_play
theorem dX9_beats_0 : decode cX9_beats 0 = .ok (.iload_n 3, 1) := by decide +kernel
theorem dX9_beats_1 : decode cX9_beats 1 = .ok (.i2l, 1) := by decide +kernel
theorem dX9_beats_2 : decode cX9_beats 2 = .ok (.lconst 0, 1) := by decide +kernel
theorem dX9_beats_3 : decode cX9_beats 3 = .ok (.lconst 1, 1) := by decide +kernel
theorem dX9_beats_4 : decode cX9_beats 4 = .ok (.invokestatic 69, 3) := by decide +kernel
theorem dX9_beats_7 : decode cX9_beats 7 = .ok (.ifCond .ne 8, 3) := by decide +kernel
theorem dX9_beats_10 : decode cX9_beats 10 = .ok (.ldc 79, 2) := by decide +kernel
theorem dX9_beats_12 : decode cX9_beats 12 = .ok (.goto 9, 3) := by decide +kernel
theorem dX9_beats_15 : decode cX9_beats 15 = .ok (.aload_n 0, 1) := by decide +kernel
theorem dX9_beats_16 : decode cX9_beats 16 = .ok (.iload_n 1, 1) := by decide +kernel
theorem dX9_beats_17 : decode cX9_beats 17 = .ok (.iload_n 2, 1) := by decide +kernel
theorem dX9_beats_18 : decode cX9_beats 18 = .ok (.invokevirtual 214, 3) := by decide +kernel
theorem dX9_beats_21 : decode cX9_beats 21 = .ok (.istore 4, 2) := by decide +kernel
theorem dX9_beats_23 : decode cX9_beats 23 = .ok (.iload 4, 2) := by decide +kernel
theorem dX9_beats_25 : decode cX9_beats 25 = .ok (.ifCond .eq 6, 3) := by decide +kernel
theorem dX9_beats_28 : decode cX9_beats 28 = .ok (.iload 4, 2) := by decide +kernel
theorem dX9_beats_30 : decode cX9_beats 30 = .ok (.ireturn, 1) := by decide +kernel
theorem dX9_beats_31 : decode cX9_beats 31 = .ok (.aload_n 0, 1) := by decide +kernel
theorem dX9_beats_32 : decode cX9_beats 32 = .ok (.iload_n 1, 1) := by decide +kernel
theorem dX9_beats_33 : decode cX9_beats 33 = .ok (.iload_n 2, 1) := by decide +kernel
theorem dX9_beats_34 : decode cX9_beats 34 = .ok (.invokevirtual 202, 3) := by decide +kernel
theorem dX9_beats_37 : decode cX9_beats 37 = .ok (.iload_n 3, 1) := by decide +kernel
theorem dX9_beats_38 : decode cX9_beats 38 = .ok (.ifCond .ne 10, 3) := by decide +kernel
theorem dX9_beats_41 : decode cX9_beats 41 = .ok (.aload_n 0, 1) := by decide +kernel
theorem dX9_beats_42 : decode cX9_beats 42 = .ok (.getfield 199, 3) := by decide +kernel
theorem dX9_beats_45 : decode cX9_beats 45 = .ok (.goto 7, 3) := by decide +kernel
theorem dX9_beats_48 : decode cX9_beats 48 = .ok (.aload_n 0, 1) := by decide +kernel
theorem dX9_beats_49 : decode cX9_beats 49 = .ok (.getfield 189, 3) := by decide +kernel
theorem dX9_beats_52 : decode cX9_beats 52 = .ok (.ireturn, 1) := by decide +kernel
theorem dX9_start_0 : decode cX9_start 0 = .ok (.iconst 0, 1) := by decide +kernel
theorem dX9_start_1 : decode cX9_start 1 = .ok (.istore_n 1, 1) := by decide +kernel
theorem dX9_start_2 : decode cX9_start 2 = .ok (.iload_n 1, 1) := by decide +kernel
theorem dX9_start_3 : decode cX9_start 3 = .ok (.bipush 27, 2) := by decide +kernel
theorem dX9_start_5 : decode cX9_start 5 = .ok (.if_icmp .ge 21, 3) := by decide +kernel
theorem dX9_start_8 : decode cX9_start 8 = .ok (.aload_n 0, 1) := by decide +kernel
theorem dX9_start_9 : decode cX9_start 9 = .ok (.getfield 23, 3) := by decide +kernel
theorem dX9_start_12 : decode cX9_start 12 = .ok (.iload_n 1, 1) := by decide +kernel
theorem dX9_start_13 : decode cX9_start 13 = .ok (.aload_n 0, 1) := by decide +kernel
theorem dX9_start_14 : decode cX9_start 14 = .ok (.getfield 7, 3) := by decide +kernel
theorem dX9_start_17 : decode cX9_start 17 = .ok (.iload_n 1, 1) := by decide +kernel
theorem dX9_start_18 : decode cX9_start 18 = .ok (.iaload, 1) := by decide +kernel
theorem dX9_start_19 : decode cX9_start 19 = .ok (.iastore, 1) := by decide +kernel
theorem dX9_start_20 : decode cX9_start 20 = .ok (.iinc 1 1, 3) := by decide +kernel
theorem dX9_start_23 : decode cX9_start 23 = .ok (.goto (-21), 3) := by decide +kernel
theorem dX9_start_26 : decode cX9_start 26 = .ok (.return_, 1) := by decide +kernel
theorem dX9_back_0 : decode cX9_back 0 = .ok (.iconst 0, 1) := by decide +kernel
theorem dX9_back_1 : decode cX9_back 1 = .ok (.istore_n 1, 1) := by decide +kernel
theorem dX9_back_2 : decode cX9_back 2 = .ok (.iload_n 1, 1) := by decide +kernel
theorem dX9_back_3 : decode cX9_back 3 = .ok (.bipush 27, 2) := by decide +kernel
theorem dX9_back_5 : decode cX9_back 5 = .ok (.if_icmp .ge 21, 3) := by decide +kernel
theorem dX9_back_8 : decode cX9_back 8 = .ok (.aload_n 0, 1) := by decide +kernel
theorem dX9_back_9 : decode cX9_back 9 = .ok (.getfield 7, 3) := by decide +kernel
theorem dX9_back_12 : decode cX9_back 12 = .ok (.iload_n 1, 1) := by decide +kernel
theorem dX9_back_13 : decode cX9_back 13 = .ok (.aload_n 0, 1) := by decide +kernel
theorem dX9_back_14 : decode cX9_back 14 = .ok (.getfield 23, 3) := by decide +kernel
theorem dX9_back_17 : decode cX9_back 17 = .ok (.iload_n 1, 1) := by decide +kernel
theorem dX9_back_18 : decode cX9_back 18 = .ok (.iaload, 1) := by decide +kernel
theorem dX9_back_19 : decode cX9_back 19 = .ok (.iastore, 1) := by decide +kernel
theorem dX9_back_20 : decode cX9_back 20 = .ok (.iinc 1 1, 3) := by decide +kernel
theorem dX9_back_23 : decode cX9_back 23 = .ok (.goto (-21), 3) := by decide +kernel
theorem dX9_back_26 : decode cX9_back 26 = .ok (.return_, 1) := by decide +kernel
set_option maxRecDepth 20000 in
theorem ggX9_goLeft_X9_leaders : GoodIn wsX9_goLeft wsX9_leaders := goodIn_r _ [6, 7, 8, 9, 5, 10, 1, 11, 12, 13, 14, 44, 45, 46, 47, 48, 49, 50, 51, 52, 53, 54, 55, 56, 57, 58, 59, 60, 61, 62, 63, 64, 65, 66, 67, 68, 69, 70, 71, 72, 73, 74] (by decide +kernel) (by decide +kernel)
set_option maxRecDepth 20000 in
theorem gX9_goLeft_X9_leaders : GoodIn wsX9_goLeft (wsV RX9 220 RX9 yX9_leaders wsX9_leaders) := goodIn_app (goodIn_of _ (by decide +kernel)) ggX9_goLeft_X9_leaders
set_option maxRecDepth 20000 in
theorem ggX9_goLeft_X9_goRound : GoodIn wsX9_goLeft wsX9_goRound := goodIn_r _ [18, 19, 20, 21, 22, 23, 24, 1, 7, 8, 9, 5, 10, 11, 12, 13, 14, 25, 26, 27, 28, 29, 30, 31, 32, 33, 34, 35, 36, 37, 38, 39, 40, 41, 42, 43, 44, 45, 46, 47, 48, 49, 50, 51, 52, 53, 54, 55, 56, 57, 58, 59, 60, 61, 62, 63, 64, 65, 66, 67, 68, 69, 70, 71, 72, 73, 74] (by decide +kernel) (by decide +kernel)
set_option maxRecDepth 20000 in
theorem gX9_goLeft_X9_goRound : GoodIn wsX9_goLeft (wsV RX9 223 RX9 yX9_goRound wsX9_goRound) := goodIn_app (goodIn_of _ (by decide +kernel)) ggX9_goLeft_X9_goRound
theorem dX9_goLeft_0 : decode cX9_goLeft 0 = .ok (.aload_n 0, 1) := by decide +kernel
theorem dX9_goLeft_1 : decode cX9_goLeft 1 = .ok (.invokevirtual 220, 3) := by decide +kernel
theorem dX9_goLeft_4 : decode cX9_goLeft 4 = .ok (.iconst 1, 1) := by decide +kernel
theorem dX9_goLeft_5 : decode cX9_goLeft 5 = .ok (.if_icmp .le 10, 3) := by decide +kernel
theorem dX9_goLeft_8 : decode cX9_goLeft 8 = .ok (.aload_n 0, 1) := by decide +kernel
theorem dX9_goLeft_9 : decode cX9_goLeft 9 = .ok (.invokevirtual 223, 3) := by decide +kernel
theorem dX9_goLeft_12 : decode cX9_goLeft 12 = .ok (.goto (-12), 3) := by decide +kernel
theorem dX9_goLeft_15 : decode cX9_goLeft 15 = .ok (.aload_n 0, 1) := by decide +kernel
theorem dX9_goLeft_16 : decode cX9_goLeft 16 = .ok (.getfield 7, 3) := by decide +kernel
theorem dX9_goLeft_19 : decode cX9_goLeft 19 = .ok (.bipush 17, 2) := by decide +kernel
theorem dX9_goLeft_21 : decode cX9_goLeft 21 = .ok (.iaload, 1) := by decide +kernel
theorem dX9_goLeft_22 : decode cX9_goLeft 22 = .ok (.ireturn, 1) := by decide +kernel
set_option maxRecDepth 20000 in
theorem ggX9_left_X9_players : GoodIn wsX9_left wsX9_players := goodIn_r _ [10, 4, 63, 64, 65, 66, 67, 68, 69, 70, 71, 72, 73, 74, 75, 76, 77, 78, 79, 80, 81, 82, 83, 84, 85, 86, 87, 88, 89, 90, 91, 92, 93] (by decide +kernel) (by decide +kernel)
set_option maxRecDepth 20000 in
theorem gX9_left_X9_players : GoodIn wsX9_left (wsV RX9 174 RX9 yX9_players wsX9_players) := goodIn_app (goodIn_of _ (by decide +kernel)) ggX9_left_X9_players
set_option maxRecDepth 20000 in
theorem ggX9_left_X9_in : GoodIn wsX9_left wsX9_in := goodIn_r _ [13] (by decide +kernel) (by decide +kernel)
set_option maxRecDepth 20000 in
theorem gX9_left_X9_in : GoodIn wsX9_left (va_wsS RX9 69 yX9_in wsX9_in) := goodIn_app (goodIn_of _ (by decide +kernel)) ggX9_left_X9_in
set_option maxRecDepth 20000 in
theorem ggX9_left_X9_start : GoodIn wsX9_left wsX9_start := goodIn_r _ [17, 5, 4, 63, 64, 65, 66, 67, 68, 69, 70, 71, 72, 73, 74, 75, 76, 77, 78, 79, 80, 81, 82, 83, 84, 85, 86, 87, 88, 89, 90, 91, 92, 93] (by decide +kernel) (by decide +kernel)
set_option maxRecDepth 20000 in
theorem gX9_left_X9_start : GoodIn wsX9_left (wsV RX9 226 RX9 yX9_start wsX9_start) := goodIn_app (goodIn_of _ (by decide +kernel)) ggX9_left_X9_start
set_option maxRecDepth 20000 in
theorem ggX9_left_X9_goLeft : GoodIn wsX9_left wsX9_goLeft := goodIn_r _ [21, 4, 22, 23, 24, 9, 25, 6, 7, 8, 10, 26, 27, 28, 29, 30, 31, 32, 33, 34, 35, 36, 37, 38, 39, 40, 41, 42, 43, 44, 45, 46, 47, 48, 49, 50, 51, 52, 53, 54, 55, 56, 57, 58, 63, 64, 65, 66, 67, 68, 69, 70, 71, 72, 73, 74, 75, 76, 77, 78, 79, 80, 81, 82, 83, 84, 85, 86, 87, 88, 89, 90, 91, 92, 93] (by decide +kernel) (by decide +kernel)
set_option maxRecDepth 20000 in
theorem gX9_left_X9_goLeft : GoodIn wsX9_left (wsV RX9 229 RX9 yX9_goLeft wsX9_goLeft) := goodIn_app (goodIn_of _ (by decide +kernel)) ggX9_left_X9_goLeft
set_option maxRecDepth 20000 in
theorem ggX9_left_X9_back : GoodIn wsX9_left wsX9_back := goodIn_r _ [62, 4, 5, 63, 64, 65, 66, 67, 68, 69, 70, 71, 72, 73, 74, 75, 76, 77, 78, 79, 80, 81, 82, 83, 84, 85, 86, 87, 88, 89, 90, 91, 92, 93] (by decide +kernel) (by decide +kernel)
set_option maxRecDepth 20000 in
theorem gX9_left_X9_back : GoodIn wsX9_left (wsV RX9 232 RX9 yX9_back wsX9_back) := goodIn_app (goodIn_of _ (by decide +kernel)) ggX9_left_X9_back
theorem dX9_left_0 : decode cX9_left 0 = .ok (.aload_n 0, 1) := by decide +kernel
theorem dX9_left_1 : decode cX9_left 1 = .ok (.invokevirtual 174, 3) := by decide +kernel
theorem dX9_left_4 : decode cX9_left 4 = .ok (.ifCond .ne 6, 3) := by decide +kernel
theorem dX9_left_7 : decode cX9_left 7 = .ok (.ldc 213, 2) := by decide +kernel
theorem dX9_left_9 : decode cX9_left 9 = .ok (.ireturn, 1) := by decide +kernel
theorem dX9_left_10 : decode cX9_left 10 = .ok (.iload_n 1, 1) := by decide +kernel
theorem dX9_left_11 : decode cX9_left 11 = .ok (.i2l, 1) := by decide +kernel
theorem dX9_left_12 : decode cX9_left 12 = .ok (.lconst 0, 1) := by decide +kernel
theorem dX9_left_13 : decode cX9_left 13 = .ok (.ldc2_w 77, 3) := by decide +kernel
theorem dX9_left_16 : decode cX9_left 16 = .ok (.invokestatic 69, 3) := by decide +kernel
theorem dX9_left_19 : decode cX9_left 19 = .ok (.ifCond .ne 6, 3) := by decide +kernel
theorem dX9_left_22 : decode cX9_left 22 = .ok (.ldc 79, 2) := by decide +kernel
theorem dX9_left_24 : decode cX9_left 24 = .ok (.ireturn, 1) := by decide +kernel
theorem dX9_left_25 : decode cX9_left 25 = .ok (.aload_n 0, 1) := by decide +kernel
theorem dX9_left_26 : decode cX9_left 26 = .ok (.invokevirtual 226, 3) := by decide +kernel
theorem dX9_left_29 : decode cX9_left 29 = .ok (.aload_n 0, 1) := by decide +kernel
theorem dX9_left_30 : decode cX9_left 30 = .ok (.invokevirtual 229, 3) := by decide +kernel
theorem dX9_left_33 : decode cX9_left 33 = .ok (.istore_n 2, 1) := by decide +kernel
theorem dX9_left_34 : decode cX9_left 34 = .ok (.aload_n 0, 1) := by decide +kernel
theorem dX9_left_35 : decode cX9_left 35 = .ok (.getfield 7, 3) := by decide +kernel
theorem dX9_left_38 : decode cX9_left 38 = .ok (.bipush 25, 2) := by decide +kernel
theorem dX9_left_40 : decode cX9_left 40 = .ok (.iaload, 1) := by decide +kernel
theorem dX9_left_41 : decode cX9_left 41 = .ok (.aload_n 0, 1) := by decide +kernel
theorem dX9_left_42 : decode cX9_left 42 = .ok (.getfield 23, 3) := by decide +kernel
theorem dX9_left_45 : decode cX9_left 45 = .ok (.bipush 25, 2) := by decide +kernel
theorem dX9_left_47 : decode cX9_left 47 = .ok (.iaload, 1) := by decide +kernel
theorem dX9_left_48 : decode cX9_left 48 = .ok (.isub, 1) := by decide +kernel
theorem dX9_left_49 : decode cX9_left 49 = .ok (.istore_n 3, 1) := by decide +kernel
theorem dX9_left_50 : decode cX9_left 50 = .ok (.aload_n 0, 1) := by decide +kernel
theorem dX9_left_51 : decode cX9_left 51 = .ok (.getfield 7, 3) := by decide +kernel
theorem dX9_left_54 : decode cX9_left 54 = .ok (.bipush 26, 2) := by decide +kernel
theorem dX9_left_56 : decode cX9_left 56 = .ok (.iaload, 1) := by decide +kernel
theorem dX9_left_57 : decode cX9_left 57 = .ok (.aload_n 0, 1) := by decide +kernel
theorem dX9_left_58 : decode cX9_left 58 = .ok (.getfield 23, 3) := by decide +kernel
theorem dX9_left_61 : decode cX9_left 61 = .ok (.bipush 26, 2) := by decide +kernel
theorem dX9_left_63 : decode cX9_left 63 = .ok (.iaload, 1) := by decide +kernel
theorem dX9_left_64 : decode cX9_left 64 = .ok (.isub, 1) := by decide +kernel
theorem dX9_left_65 : decode cX9_left 65 = .ok (.istore 4, 2) := by decide +kernel
theorem dX9_left_67 : decode cX9_left 67 = .ok (.aload_n 0, 1) := by decide +kernel
theorem dX9_left_68 : decode cX9_left 68 = .ok (.invokevirtual 232, 3) := by decide +kernel
theorem dX9_left_71 : decode cX9_left 71 = .ok (.iload_n 1, 1) := by decide +kernel
theorem dX9_left_72 : decode cX9_left 72 = .ok (.ifCond .ne 7, 3) := by decide +kernel
theorem dX9_left_75 : decode cX9_left 75 = .ok (.iload_n 2, 1) := by decide +kernel
theorem dX9_left_76 : decode cX9_left 76 = .ok (.goto 14, 3) := by decide +kernel
theorem dX9_left_79 : decode cX9_left 79 = .ok (.iload_n 1, 1) := by decide +kernel
theorem dX9_left_80 : decode cX9_left 80 = .ok (.iconst 1, 1) := by decide +kernel
theorem dX9_left_81 : decode cX9_left 81 = .ok (.if_icmp .ne 7, 3) := by decide +kernel
theorem dX9_left_84 : decode cX9_left 84 = .ok (.iload_n 3, 1) := by decide +kernel
theorem dX9_left_85 : decode cX9_left 85 = .ok (.goto 5, 3) := by decide +kernel
theorem dX9_left_88 : decode cX9_left 88 = .ok (.iload 4, 2) := by decide +kernel
theorem dX9_left_90 : decode cX9_left 90 = .ok (.ireturn, 1) := by decide +kernel
set_option maxRecDepth 20000 in
theorem ggX9_longest_X9_players : GoodIn wsX9_longest wsX9_players := goodIn_r _ [8, 9, 59, 60, 61, 62, 63, 64, 65, 66, 67, 68, 69, 70, 71, 72, 73, 74, 75, 76, 77, 78, 79, 80, 81, 82, 83, 84, 85, 86, 87, 88, 89] (by decide +kernel) (by decide +kernel)
set_option maxRecDepth 20000 in
theorem gX9_longest_X9_players : GoodIn wsX9_longest (wsV RX9 174 RX9 yX9_players wsX9_players) := goodIn_app (goodIn_of _ (by decide +kernel)) ggX9_longest_X9_players
set_option maxRecDepth 20000 in
theorem ggX9_longest_X9_in : GoodIn wsX9_longest wsX9_in := goodIn_r _ [12] (by decide +kernel) (by decide +kernel)
set_option maxRecDepth 20000 in
theorem gX9_longest_X9_in : GoodIn wsX9_longest (va_wsS RX9 69 yX9_in wsX9_in) := goodIn_app (goodIn_of _ (by decide +kernel)) ggX9_longest_X9_in
set_option maxRecDepth 20000 in
theorem ggX9_longest_X9_start : GoodIn wsX9_longest wsX9_start := goodIn_r _ [16, 17, 9, 59, 60, 61, 62, 63, 64, 65, 66, 67, 68, 69, 70, 71, 72, 73, 74, 75, 76, 77, 78, 79, 80, 81, 82, 83, 84, 85, 86, 87, 88, 89] (by decide +kernel) (by decide +kernel)
set_option maxRecDepth 20000 in
theorem gX9_longest_X9_start : GoodIn wsX9_longest (wsV RX9 226 RX9 yX9_start wsX9_start) := goodIn_app (goodIn_of _ (by decide +kernel)) ggX9_longest_X9_start
set_option maxRecDepth 20000 in
theorem ggX9_longest_X9_leaders : GoodIn wsX9_longest wsX9_leaders := goodIn_r _ [21, 4, 5, 6, 7, 8, 9, 22, 23, 24, 25, 59, 60, 61, 62, 63, 64, 65, 66, 67, 68, 69, 70, 71, 72, 73, 74, 75, 76, 77, 78, 79, 80, 81, 82, 83, 84, 85, 86, 87, 88, 89] (by decide +kernel) (by decide +kernel)
set_option maxRecDepth 20000 in
theorem gX9_longest_X9_leaders : GoodIn wsX9_longest (wsV RX9 220 RX9 yX9_leaders wsX9_leaders) := goodIn_app (goodIn_of _ (by decide +kernel)) ggX9_longest_X9_leaders
set_option maxRecDepth 20000 in
theorem ggX9_longest_X9_goRound : GoodIn wsX9_longest wsX9_goRound := goodIn_r _ [29, 30, 31, 32, 33, 34, 35, 9, 4, 5, 6, 7, 8, 22, 23, 24, 25, 36, 37, 38, 39, 40, 41, 42, 43, 44, 45, 46, 47, 48, 49, 50, 51, 52, 53, 54, 59, 60, 61, 62, 63, 64, 65, 66, 67, 68, 69, 70, 71, 72, 73, 74, 75, 76, 77, 78, 79, 80, 81, 82, 83, 84, 85, 86, 87, 88, 89] (by decide +kernel) (by decide +kernel)
set_option maxRecDepth 20000 in
theorem gX9_longest_X9_goRound : GoodIn wsX9_longest (wsV RX9 223 RX9 yX9_goRound wsX9_goRound) := goodIn_app (goodIn_of _ (by decide +kernel)) ggX9_longest_X9_goRound
set_option maxRecDepth 20000 in
theorem ggX9_longest_X9_leads : GoodIn wsX9_longest wsX9_leads := goodIn_r _ [25, 9, 59, 60, 61, 62, 63, 64, 65, 66, 67, 68, 69, 70, 71, 72, 73, 74, 75, 76, 77, 78, 79, 80, 81, 82, 83, 84, 85, 86, 87, 88, 89] (by decide +kernel) (by decide +kernel)
set_option maxRecDepth 20000 in
theorem gX9_longest_X9_leads : GoodIn wsX9_longest (wsV RX9 177 RX9 yX9_leads wsX9_leads) := goodIn_app (goodIn_of _ (by decide +kernel)) ggX9_longest_X9_leads
set_option maxRecDepth 20000 in
theorem ggX9_longest_X9_sizeOf : GoodIn wsX9_longest wsX9_sizeOf := goodIn_r _ [50, 9, 4, 5, 6, 7, 8, 59, 60, 61, 62, 63, 64, 65, 66, 67, 68, 69, 70, 71, 72, 73, 74, 75, 76, 77, 78, 79, 80, 81, 82, 83, 84, 85, 86, 87, 88, 89] (by decide +kernel) (by decide +kernel)
set_option maxRecDepth 20000 in
theorem gX9_longest_X9_sizeOf : GoodIn wsX9_longest (wsV RX9 196 RX9 yX9_sizeOf wsX9_sizeOf) := goodIn_app (goodIn_of _ (by decide +kernel)) ggX9_longest_X9_sizeOf
set_option maxRecDepth 20000 in
theorem ggX9_longest_X9_back : GoodIn wsX9_longest wsX9_back := goodIn_r _ [58, 9, 17, 59, 60, 61, 62, 63, 64, 65, 66, 67, 68, 69, 70, 71, 72, 73, 74, 75, 76, 77, 78, 79, 80, 81, 82, 83, 84, 85, 86, 87, 88, 89] (by decide +kernel) (by decide +kernel)
set_option maxRecDepth 20000 in
theorem gX9_longest_X9_back : GoodIn wsX9_longest (wsV RX9 232 RX9 yX9_back wsX9_back) := goodIn_app (goodIn_of _ (by decide +kernel)) ggX9_longest_X9_back
theorem dX9_longest_0 : decode cX9_longest 0 = .ok (.aload_n 0, 1) := by decide +kernel
theorem dX9_longest_1 : decode cX9_longest 1 = .ok (.invokevirtual 174, 3) := by decide +kernel
theorem dX9_longest_4 : decode cX9_longest 4 = .ok (.ifCond .ne 6, 3) := by decide +kernel
theorem dX9_longest_7 : decode cX9_longest 7 = .ok (.ldc 213, 2) := by decide +kernel
theorem dX9_longest_9 : decode cX9_longest 9 = .ok (.ireturn, 1) := by decide +kernel
theorem dX9_longest_10 : decode cX9_longest 10 = .ok (.iload_n 1, 1) := by decide +kernel
theorem dX9_longest_11 : decode cX9_longest 11 = .ok (.i2l, 1) := by decide +kernel
theorem dX9_longest_12 : decode cX9_longest 12 = .ok (.lconst 0, 1) := by decide +kernel
theorem dX9_longest_13 : decode cX9_longest 13 = .ok (.ldc2_w 235, 3) := by decide +kernel
theorem dX9_longest_16 : decode cX9_longest 16 = .ok (.invokestatic 69, 3) := by decide +kernel
theorem dX9_longest_19 : decode cX9_longest 19 = .ok (.ifCond .eq 13, 3) := by decide +kernel
theorem dX9_longest_22 : decode cX9_longest 22 = .ok (.iload_n 2, 1) := by decide +kernel
theorem dX9_longest_23 : decode cX9_longest 23 = .ok (.i2l, 1) := by decide +kernel
theorem dX9_longest_24 : decode cX9_longest 24 = .ok (.lconst 0, 1) := by decide +kernel
theorem dX9_longest_25 : decode cX9_longest 25 = .ok (.lconst 1, 1) := by decide +kernel
theorem dX9_longest_26 : decode cX9_longest 26 = .ok (.invokestatic 69, 3) := by decide +kernel
theorem dX9_longest_29 : decode cX9_longest 29 = .ok (.ifCond .ne 6, 3) := by decide +kernel
theorem dX9_longest_32 : decode cX9_longest 32 = .ok (.ldc 79, 2) := by decide +kernel
theorem dX9_longest_34 : decode cX9_longest 34 = .ok (.ireturn, 1) := by decide +kernel
theorem dX9_longest_35 : decode cX9_longest 35 = .ok (.aload_n 0, 1) := by decide +kernel
theorem dX9_longest_36 : decode cX9_longest 36 = .ok (.invokevirtual 226, 3) := by decide +kernel
theorem dX9_longest_39 : decode cX9_longest 39 = .ok (.iconst 0, 1) := by decide +kernel
theorem dX9_longest_40 : decode cX9_longest 40 = .ok (.istore_n 3, 1) := by decide +kernel
theorem dX9_longest_41 : decode cX9_longest 41 = .ok (.iload_n 3, 1) := by decide +kernel
theorem dX9_longest_42 : decode cX9_longest 42 = .ok (.iload_n 1, 1) := by decide +kernel
theorem dX9_longest_43 : decode cX9_longest 43 = .ok (.if_icmp .ge 21, 3) := by decide +kernel
theorem dX9_longest_46 : decode cX9_longest 46 = .ok (.aload_n 0, 1) := by decide +kernel
theorem dX9_longest_47 : decode cX9_longest 47 = .ok (.invokevirtual 220, 3) := by decide +kernel
theorem dX9_longest_50 : decode cX9_longest 50 = .ok (.iconst 1, 1) := by decide +kernel
theorem dX9_longest_51 : decode cX9_longest 51 = .ok (.if_icmp .le 13, 3) := by decide +kernel
theorem dX9_longest_54 : decode cX9_longest 54 = .ok (.aload_n 0, 1) := by decide +kernel
theorem dX9_longest_55 : decode cX9_longest 55 = .ok (.invokevirtual 223, 3) := by decide +kernel
theorem dX9_longest_58 : decode cX9_longest 58 = .ok (.iinc 3 1, 3) := by decide +kernel
theorem dX9_longest_61 : decode cX9_longest 61 = .ok (.goto (-20), 3) := by decide +kernel
theorem dX9_longest_64 : decode cX9_longest 64 = .ok (.iconst 0, 1) := by decide +kernel
theorem dX9_longest_65 : decode cX9_longest 65 = .ok (.istore_n 3, 1) := by decide +kernel
theorem dX9_longest_66 : decode cX9_longest 66 = .ok (.iconst 0, 1) := by decide +kernel
theorem dX9_longest_67 : decode cX9_longest 67 = .ok (.istore 4, 2) := by decide +kernel
theorem dX9_longest_69 : decode cX9_longest 69 = .ok (.iconst 0, 1) := by decide +kernel
theorem dX9_longest_70 : decode cX9_longest 70 = .ok (.istore 5, 2) := by decide +kernel
theorem dX9_longest_72 : decode cX9_longest 72 = .ok (.iload 5, 2) := by decide +kernel
theorem dX9_longest_74 : decode cX9_longest 74 = .ok (.aload_n 0, 1) := by decide +kernel
theorem dX9_longest_75 : decode cX9_longest 75 = .ok (.invokevirtual 174, 3) := by decide +kernel
theorem dX9_longest_78 : decode cX9_longest 78 = .ok (.if_icmp .ge 58, 3) := by decide +kernel
theorem dX9_longest_81 : decode cX9_longest 81 = .ok (.aload_n 0, 1) := by decide +kernel
theorem dX9_longest_82 : decode cX9_longest 82 = .ok (.iload 5, 2) := by decide +kernel
theorem dX9_longest_84 : decode cX9_longest 84 = .ok (.invokevirtual 177, 3) := by decide +kernel
theorem dX9_longest_87 : decode cX9_longest 87 = .ok (.ifCond .eq 12, 3) := by decide +kernel
theorem dX9_longest_90 : decode cX9_longest 90 = .ok (.aload_n 0, 1) := by decide +kernel
theorem dX9_longest_91 : decode cX9_longest 91 = .ok (.iload 5, 2) := by decide +kernel
theorem dX9_longest_93 : decode cX9_longest 93 = .ok (.invokevirtual 196, 3) := by decide +kernel
theorem dX9_longest_96 : decode cX9_longest 96 = .ok (.goto 4, 3) := by decide +kernel
theorem dX9_longest_99 : decode cX9_longest 99 = .ok (.iconst 0, 1) := by decide +kernel
theorem dX9_longest_100 : decode cX9_longest 100 = .ok (.istore 6, 2) := by decide +kernel
theorem dX9_longest_102 : decode cX9_longest 102 = .ok (.iload 6, 2) := by decide +kernel
theorem dX9_longest_104 : decode cX9_longest 104 = .ok (.iload_n 3, 1) := by decide +kernel
theorem dX9_longest_105 : decode cX9_longest 105 = .ok (.if_icmp .le 8, 3) := by decide +kernel
theorem dX9_longest_108 : decode cX9_longest 108 = .ok (.iload 5, 2) := by decide +kernel
theorem dX9_longest_110 : decode cX9_longest 110 = .ok (.goto 5, 3) := by decide +kernel
theorem dX9_longest_113 : decode cX9_longest 113 = .ok (.iload 4, 2) := by decide +kernel
theorem dX9_longest_115 : decode cX9_longest 115 = .ok (.istore 4, 2) := by decide +kernel
theorem dX9_longest_117 : decode cX9_longest 117 = .ok (.iload 6, 2) := by decide +kernel
theorem dX9_longest_119 : decode cX9_longest 119 = .ok (.iload_n 3, 1) := by decide +kernel
theorem dX9_longest_120 : decode cX9_longest 120 = .ok (.if_icmp .le 8, 3) := by decide +kernel
theorem dX9_longest_123 : decode cX9_longest 123 = .ok (.iload 6, 2) := by decide +kernel
theorem dX9_longest_125 : decode cX9_longest 125 = .ok (.goto 4, 3) := by decide +kernel
theorem dX9_longest_128 : decode cX9_longest 128 = .ok (.iload_n 3, 1) := by decide +kernel
theorem dX9_longest_129 : decode cX9_longest 129 = .ok (.istore_n 3, 1) := by decide +kernel
theorem dX9_longest_130 : decode cX9_longest 130 = .ok (.iinc 5 1, 3) := by decide +kernel
theorem dX9_longest_133 : decode cX9_longest 133 = .ok (.goto (-61), 3) := by decide +kernel
theorem dX9_longest_136 : decode cX9_longest 136 = .ok (.aload_n 0, 1) := by decide +kernel
theorem dX9_longest_137 : decode cX9_longest 137 = .ok (.invokevirtual 232, 3) := by decide +kernel
theorem dX9_longest_140 : decode cX9_longest 140 = .ok (.iload_n 2, 1) := by decide +kernel
theorem dX9_longest_141 : decode cX9_longest 141 = .ok (.ifCond .ne 7, 3) := by decide +kernel
theorem dX9_longest_144 : decode cX9_longest 144 = .ok (.iload_n 3, 1) := by decide +kernel
theorem dX9_longest_145 : decode cX9_longest 145 = .ok (.goto 5, 3) := by decide +kernel
theorem dX9_longest_148 : decode cX9_longest 148 = .ok (.iload 4, 2) := by decide +kernel
theorem dX9_longest_150 : decode cX9_longest 150 = .ok (.ireturn, 1) := by decide +kernel
set_option maxRecDepth 20000 in
theorem ggX9_notLeading_X9_isPlayer : GoodIn wsX9_notLeading wsX9_isPlayer := goodIn_r _ [7, 8, 9, 10, 6, 11, 12, 13, 14, 15, 20, 21, 22, 23, 24, 25, 26, 27, 28, 29, 30, 31, 32, 33, 34, 35, 36, 37, 38, 39, 40, 41, 42, 43, 44, 45, 46, 47, 48, 49, 50] (by decide +kernel) (by decide +kernel)
set_option maxRecDepth 20000 in
theorem gX9_notLeading_X9_isPlayer : GoodIn wsX9_notLeading (wsV RX9 210 RX9 yX9_isPlayer wsX9_isPlayer) := goodIn_app (goodIn_of _ (by decide +kernel)) ggX9_notLeading_X9_isPlayer
set_option maxRecDepth 20000 in
theorem ggX9_notLeading_X9_leads : GoodIn wsX9_notLeading wsX9_leads := goodIn_r _ [19, 12, 20, 21, 22, 23, 24, 25, 26, 27, 28, 29, 30, 31, 32, 33, 34, 35, 36, 37, 38, 39, 40, 41, 42, 43, 44, 45, 46, 47, 48, 49, 50] (by decide +kernel) (by decide +kernel)
set_option maxRecDepth 20000 in
theorem gX9_notLeading_X9_leads : GoodIn wsX9_notLeading (wsV RX9 177 RX9 yX9_leads wsX9_leads) := goodIn_app (goodIn_of _ (by decide +kernel)) ggX9_notLeading_X9_leads
theorem dX9_notLeading_0 : decode cX9_notLeading 0 = .ok (.aload_n 0, 1) := by decide +kernel
theorem dX9_notLeading_1 : decode cX9_notLeading 1 = .ok (.iload_n 1, 1) := by decide +kernel
theorem dX9_notLeading_2 : decode cX9_notLeading 2 = .ok (.invokevirtual 210, 3) := by decide +kernel
theorem dX9_notLeading_5 : decode cX9_notLeading 5 = .ok (.ifCond .ne 8, 3) := by decide +kernel
theorem dX9_notLeading_8 : decode cX9_notLeading 8 = .ok (.ldc 79, 2) := by decide +kernel
theorem dX9_notLeading_10 : decode cX9_notLeading 10 = .ok (.goto 17, 3) := by decide +kernel
theorem dX9_notLeading_13 : decode cX9_notLeading 13 = .ok (.aload_n 0, 1) := by decide +kernel
theorem dX9_notLeading_14 : decode cX9_notLeading 14 = .ok (.iload_n 1, 1) := by decide +kernel
theorem dX9_notLeading_15 : decode cX9_notLeading 15 = .ok (.invokevirtual 177, 3) := by decide +kernel
theorem dX9_notLeading_18 : decode cX9_notLeading 18 = .ok (.ifCond .ne 8, 3) := by decide +kernel
theorem dX9_notLeading_21 : decode cX9_notLeading 21 = .ok (.ldc 213, 2) := by decide +kernel
theorem dX9_notLeading_23 : decode cX9_notLeading 23 = .ok (.goto 4, 3) := by decide +kernel
theorem dX9_notLeading_26 : decode cX9_notLeading 26 = .ok (.iconst 0, 1) := by decide +kernel
theorem dX9_notLeading_27 : decode cX9_notLeading 27 = .ok (.ireturn, 1) := by decide +kernel
set_option maxRecDepth 20000 in
theorem ggX9_leadsLong_X9_leads : GoodIn wsX9_leadsLong wsX9_leads := goodIn_r _ [5, 6, 44, 45, 46, 47, 48, 49, 50, 51, 52, 53, 54, 55, 56, 57, 58, 59, 60, 61, 62, 63, 64, 65, 66, 67, 68, 69, 70, 71, 72, 73, 74] (by decide +kernel) (by decide +kernel)
set_option maxRecDepth 20000 in
theorem gX9_leadsLong_X9_leads : GoodIn wsX9_leadsLong (wsV RX9 177 RX9 yX9_leads wsX9_leads) := goodIn_app (goodIn_of _ (by decide +kernel)) ggX9_leadsLong_X9_leads
set_option maxRecDepth 20000 in
theorem ggX9_leadsLong_X9_leaders : GoodIn wsX9_leadsLong wsX9_leaders := goodIn_r _ [10, 11, 12, 13, 4, 14, 6, 1, 2, 3, 5, 44, 45, 46, 47, 48, 49, 50, 51, 52, 53, 54, 55, 56, 57, 58, 59, 60, 61, 62, 63, 64, 65, 66, 67, 68, 69, 70, 71, 72, 73, 74] (by decide +kernel) (by decide +kernel)
set_option maxRecDepth 20000 in
theorem gX9_leadsLong_X9_leaders : GoodIn wsX9_leadsLong (wsV RX9 220 RX9 yX9_leaders wsX9_leaders) := goodIn_app (goodIn_of _ (by decide +kernel)) ggX9_leadsLong_X9_leaders
set_option maxRecDepth 20000 in
theorem ggX9_leadsLong_X9_goRound : GoodIn wsX9_leadsLong wsX9_goRound := goodIn_r _ [18, 19, 20, 21, 22, 23, 24, 6, 11, 12, 13, 4, 14, 1, 2, 3, 5, 25, 26, 27, 28, 29, 30, 31, 32, 33, 34, 35, 36, 37, 38, 39, 40, 41, 42, 43, 44, 45, 46, 47, 48, 49, 50, 51, 52, 53, 54, 55, 56, 57, 58, 59, 60, 61, 62, 63, 64, 65, 66, 67, 68, 69, 70, 71, 72, 73, 74] (by decide +kernel) (by decide +kernel)
set_option maxRecDepth 20000 in
theorem gX9_leadsLong_X9_goRound : GoodIn wsX9_leadsLong (wsV RX9 223 RX9 yX9_goRound wsX9_goRound) := goodIn_app (goodIn_of _ (by decide +kernel)) ggX9_leadsLong_X9_goRound
theorem dX9_leadsLong_0 : decode cX9_leadsLong 0 = .ok (.iconst 0, 1) := by decide +kernel
theorem dX9_leadsLong_1 : decode cX9_leadsLong 1 = .ok (.istore_n 2, 1) := by decide +kernel
theorem dX9_leadsLong_2 : decode cX9_leadsLong 2 = .ok (.aload_n 0, 1) := by decide +kernel
theorem dX9_leadsLong_3 : decode cX9_leadsLong 3 = .ok (.iload_n 1, 1) := by decide +kernel
theorem dX9_leadsLong_4 : decode cX9_leadsLong 4 = .ok (.invokevirtual 177, 3) := by decide +kernel
theorem dX9_leadsLong_7 : decode cX9_leadsLong 7 = .ok (.ifCond .eq 21, 3) := by decide +kernel
theorem dX9_leadsLong_10 : decode cX9_leadsLong 10 = .ok (.aload_n 0, 1) := by decide +kernel
theorem dX9_leadsLong_11 : decode cX9_leadsLong 11 = .ok (.invokevirtual 220, 3) := by decide +kernel
theorem dX9_leadsLong_14 : decode cX9_leadsLong 14 = .ok (.iconst 1, 1) := by decide +kernel
theorem dX9_leadsLong_15 : decode cX9_leadsLong 15 = .ok (.if_icmp .le 13, 3) := by decide +kernel
theorem dX9_leadsLong_18 : decode cX9_leadsLong 18 = .ok (.aload_n 0, 1) := by decide +kernel
theorem dX9_leadsLong_19 : decode cX9_leadsLong 19 = .ok (.invokevirtual 223, 3) := by decide +kernel
theorem dX9_leadsLong_22 : decode cX9_leadsLong 22 = .ok (.iinc 2 1, 3) := by decide +kernel
theorem dX9_leadsLong_25 : decode cX9_leadsLong 25 = .ok (.goto (-23), 3) := by decide +kernel
theorem dX9_leadsLong_28 : decode cX9_leadsLong 28 = .ok (.aload_n 0, 1) := by decide +kernel
theorem dX9_leadsLong_29 : decode cX9_leadsLong 29 = .ok (.iload_n 1, 1) := by decide +kernel
theorem dX9_leadsLong_30 : decode cX9_leadsLong 30 = .ok (.invokevirtual 177, 3) := by decide +kernel
theorem dX9_leadsLong_33 : decode cX9_leadsLong 33 = .ok (.ifCond .eq 8, 3) := by decide +kernel
theorem dX9_leadsLong_36 : decode cX9_leadsLong 36 = .ok (.bipush 100, 2) := by decide +kernel
theorem dX9_leadsLong_38 : decode cX9_leadsLong 38 = .ok (.goto 4, 3) := by decide +kernel
theorem dX9_leadsLong_41 : decode cX9_leadsLong 41 = .ok (.iload_n 2, 1) := by decide +kernel
theorem dX9_leadsLong_42 : decode cX9_leadsLong 42 = .ok (.ireturn, 1) := by decide +kernel
set_option maxRecDepth 20000 in
theorem ggX9_begin_X9_notLeading : GoodIn wsX9_begin wsX9_notLeading := goodIn_r _ [6, 7, 8, 9, 10, 11, 5, 12, 13, 14, 15, 16, 1, 17, 18, 19, 20, 21, 22, 23, 70, 71, 72, 73, 74, 75, 76, 77, 78, 79, 80, 81, 82, 83, 84, 85, 86, 87, 88, 89, 90, 91, 92, 93, 94, 95, 96, 97, 98, 99, 100] (by decide +kernel) (by decide +kernel)
set_option maxRecDepth 20000 in
theorem gX9_begin_X9_notLeading : GoodIn wsX9_begin (wsV RX9 237 RX9 yX9_notLeading wsX9_notLeading) := goodIn_app (goodIn_of _ (by decide +kernel)) ggX9_begin_X9_notLeading
set_option maxRecDepth 20000 in
theorem ggX9_begin_X9_start : GoodIn wsX9_begin wsX9_start := goodIn_r _ [27, 28, 1, 70, 71, 72, 73, 74, 75, 76, 77, 78, 79, 80, 81, 82, 83, 84, 85, 86, 87, 88, 89, 90, 91, 92, 93, 94, 95, 96, 97, 98, 99, 100] (by decide +kernel) (by decide +kernel)
set_option maxRecDepth 20000 in
theorem gX9_begin_X9_start : GoodIn wsX9_begin (wsV RX9 226 RX9 yX9_start wsX9_start) := goodIn_app (goodIn_of _ (by decide +kernel)) ggX9_begin_X9_start
set_option maxRecDepth 20000 in
theorem ggX9_begin_X9_leadsLong : GoodIn wsX9_begin wsX9_leadsLong := goodIn_r _ [32, 20, 21, 22, 5, 23, 1, 33, 34, 35, 36, 13, 14, 15, 16, 37, 38, 39, 40, 41, 42, 43, 44, 45, 46, 47, 48, 49, 50, 51, 52, 53, 54, 55, 56, 57, 58, 59, 60, 61, 62, 63, 64, 65, 70, 71, 72, 73, 74, 75, 76, 77, 78, 79, 80, 81, 82, 83, 84, 85, 86, 87, 88, 89, 90, 91, 92, 93, 94, 95, 96, 97, 98, 99, 100] (by decide +kernel) (by decide +kernel)
set_option maxRecDepth 20000 in
theorem gX9_begin_X9_leadsLong : GoodIn wsX9_begin (wsV RX9 240 RX9 yX9_leadsLong wsX9_leadsLong) := goodIn_app (goodIn_of _ (by decide +kernel)) ggX9_begin_X9_leadsLong
set_option maxRecDepth 20000 in
theorem ggX9_begin_X9_back : GoodIn wsX9_begin wsX9_back := goodIn_r _ [69, 1, 28, 70, 71, 72, 73, 74, 75, 76, 77, 78, 79, 80, 81, 82, 83, 84, 85, 86, 87, 88, 89, 90, 91, 92, 93, 94, 95, 96, 97, 98, 99, 100] (by decide +kernel) (by decide +kernel)
set_option maxRecDepth 20000 in
theorem gX9_begin_X9_back : GoodIn wsX9_begin (wsV RX9 232 RX9 yX9_back wsX9_back) := goodIn_app (goodIn_of _ (by decide +kernel)) ggX9_begin_X9_back
theorem dX9_begin_0 : decode cX9_begin 0 = .ok (.aload_n 0, 1) := by decide +kernel
theorem dX9_begin_1 : decode cX9_begin 1 = .ok (.iload_n 1, 1) := by decide +kernel
theorem dX9_begin_2 : decode cX9_begin 2 = .ok (.invokevirtual 237, 3) := by decide +kernel
theorem dX9_begin_5 : decode cX9_begin 5 = .ok (.istore_n 2, 1) := by decide +kernel
theorem dX9_begin_6 : decode cX9_begin 6 = .ok (.iload_n 2, 1) := by decide +kernel
theorem dX9_begin_7 : decode cX9_begin 7 = .ok (.ifCond .eq 5, 3) := by decide +kernel
theorem dX9_begin_10 : decode cX9_begin 10 = .ok (.iload_n 2, 1) := by decide +kernel
theorem dX9_begin_11 : decode cX9_begin 11 = .ok (.ireturn, 1) := by decide +kernel
theorem dX9_begin_12 : decode cX9_begin 12 = .ok (.iconst 0, 1) := by decide +kernel
theorem dX9_begin_13 : decode cX9_begin 13 = .ok (.istore_n 3, 1) := by decide +kernel
theorem dX9_begin_14 : decode cX9_begin 14 = .ok (.iconst (-1), 1) := by decide +kernel
theorem dX9_begin_15 : decode cX9_begin 15 = .ok (.istore 4, 2) := by decide +kernel
theorem dX9_begin_17 : decode cX9_begin 17 = .ok (.aload_n 0, 1) := by decide +kernel
theorem dX9_begin_18 : decode cX9_begin 18 = .ok (.invokevirtual 226, 3) := by decide +kernel
theorem dX9_begin_21 : decode cX9_begin 21 = .ok (.iconst 0, 1) := by decide +kernel
theorem dX9_begin_22 : decode cX9_begin 22 = .ok (.istore 5, 2) := by decide +kernel
theorem dX9_begin_24 : decode cX9_begin 24 = .ok (.iload 5, 2) := by decide +kernel
theorem dX9_begin_26 : decode cX9_begin 26 = .ok (.iconst 3, 1) := by decide +kernel
theorem dX9_begin_27 : decode cX9_begin 27 = .ok (.if_icmp .ge 61, 3) := by decide +kernel
theorem dX9_begin_30 : decode cX9_begin 30 = .ok (.aload_n 0, 1) := by decide +kernel
theorem dX9_begin_31 : decode cX9_begin 31 = .ok (.getfield 7, 3) := by decide +kernel
theorem dX9_begin_34 : decode cX9_begin 34 = .ok (.bipush 9, 2) := by decide +kernel
theorem dX9_begin_36 : decode cX9_begin 36 = .ok (.iload_n 1, 1) := by decide +kernel
theorem dX9_begin_37 : decode cX9_begin 37 = .ok (.iadd, 1) := by decide +kernel
theorem dX9_begin_38 : decode cX9_begin 38 = .ok (.iload 5, 2) := by decide +kernel
theorem dX9_begin_40 : decode cX9_begin 40 = .ok (.iastore, 1) := by decide +kernel
theorem dX9_begin_41 : decode cX9_begin 41 = .ok (.aload_n 0, 1) := by decide +kernel
theorem dX9_begin_42 : decode cX9_begin 42 = .ok (.iload_n 1, 1) := by decide +kernel
theorem dX9_begin_43 : decode cX9_begin 43 = .ok (.invokevirtual 240, 3) := by decide +kernel
theorem dX9_begin_46 : decode cX9_begin 46 = .ok (.istore 6, 2) := by decide +kernel
theorem dX9_begin_48 : decode cX9_begin 48 = .ok (.aload_n 0, 1) := by decide +kernel
theorem dX9_begin_49 : decode cX9_begin 49 = .ok (.invokevirtual 232, 3) := by decide +kernel
theorem dX9_begin_52 : decode cX9_begin 52 = .ok (.iload 6, 2) := by decide +kernel
theorem dX9_begin_54 : decode cX9_begin 54 = .ok (.iload 4, 2) := by decide +kernel
theorem dX9_begin_56 : decode cX9_begin 56 = .ok (.if_icmp .le 8, 3) := by decide +kernel
theorem dX9_begin_59 : decode cX9_begin 59 = .ok (.iload 5, 2) := by decide +kernel
theorem dX9_begin_61 : decode cX9_begin 61 = .ok (.goto 4, 3) := by decide +kernel
theorem dX9_begin_64 : decode cX9_begin 64 = .ok (.iload_n 3, 1) := by decide +kernel
theorem dX9_begin_65 : decode cX9_begin 65 = .ok (.istore_n 3, 1) := by decide +kernel
theorem dX9_begin_66 : decode cX9_begin 66 = .ok (.iload 6, 2) := by decide +kernel
theorem dX9_begin_68 : decode cX9_begin 68 = .ok (.iload 4, 2) := by decide +kernel
theorem dX9_begin_70 : decode cX9_begin 70 = .ok (.if_icmp .le 8, 3) := by decide +kernel
theorem dX9_begin_73 : decode cX9_begin 73 = .ok (.iload 6, 2) := by decide +kernel
theorem dX9_begin_75 : decode cX9_begin 75 = .ok (.goto 5, 3) := by decide +kernel
theorem dX9_begin_78 : decode cX9_begin 78 = .ok (.iload 4, 2) := by decide +kernel
theorem dX9_begin_80 : decode cX9_begin 80 = .ok (.istore 4, 2) := by decide +kernel
theorem dX9_begin_82 : decode cX9_begin 82 = .ok (.iinc 5 1, 3) := by decide +kernel
theorem dX9_begin_85 : decode cX9_begin 85 = .ok (.goto (-61), 3) := by decide +kernel
theorem dX9_begin_88 : decode cX9_begin 88 = .ok (.iload_n 3, 1) := by decide +kernel
theorem dX9_begin_89 : decode cX9_begin 89 = .ok (.ireturn, 1) := by decide +kernel
set_option maxRecDepth 20000 in
theorem ggX9_seek_X9_notLeading : GoodIn wsX9_seek wsX9_notLeading := goodIn_r _ [8, 9, 10, 11, 12, 13, 7, 14, 15, 16, 17, 18, 19, 20, 21, 22, 23, 24, 25, 26, 70, 71, 72, 73, 74, 75, 76, 77, 78, 79, 80, 81, 82, 83, 84, 85, 86, 87, 88, 89, 90, 91, 92, 93, 94, 95, 96, 97, 98, 99, 100] (by decide +kernel) (by decide +kernel)
set_option maxRecDepth 20000 in
theorem gX9_seek_X9_notLeading : GoodIn wsX9_seek (wsV RX9 237 RX9 yX9_notLeading wsX9_notLeading) := goodIn_app (goodIn_of _ (by decide +kernel)) ggX9_seek_X9_notLeading
set_option maxRecDepth 20000 in
theorem ggX9_seek_X9_start : GoodIn wsX9_seek wsX9_start := goodIn_r _ [30, 31, 19, 70, 71, 72, 73, 74, 75, 76, 77, 78, 79, 80, 81, 82, 83, 84, 85, 86, 87, 88, 89, 90, 91, 92, 93, 94, 95, 96, 97, 98, 99, 100] (by decide +kernel) (by decide +kernel)
set_option maxRecDepth 20000 in
theorem gX9_seek_X9_start : GoodIn wsX9_seek (wsV RX9 226 RX9 yX9_start wsX9_start) := goodIn_app (goodIn_of _ (by decide +kernel)) ggX9_seek_X9_start
set_option maxRecDepth 20000 in
theorem ggX9_seek_X9_players : GoodIn wsX9_seek wsX9_players := goodIn_r _ [18, 19, 70, 71, 72, 73, 74, 75, 76, 77, 78, 79, 80, 81, 82, 83, 84, 85, 86, 87, 88, 89, 90, 91, 92, 93, 94, 95, 96, 97, 98, 99, 100] (by decide +kernel) (by decide +kernel)
set_option maxRecDepth 20000 in
theorem gX9_seek_X9_players : GoodIn wsX9_seek (wsV RX9 174 RX9 yX9_players wsX9_players) := goodIn_app (goodIn_of _ (by decide +kernel)) ggX9_seek_X9_players
set_option maxRecDepth 20000 in
theorem ggX9_seek_X9_leads : GoodIn wsX9_seek wsX9_leads := goodIn_r _ [26, 19, 70, 71, 72, 73, 74, 75, 76, 77, 78, 79, 80, 81, 82, 83, 84, 85, 86, 87, 88, 89, 90, 91, 92, 93, 94, 95, 96, 97, 98, 99, 100] (by decide +kernel) (by decide +kernel)
set_option maxRecDepth 20000 in
theorem gX9_seek_X9_leads : GoodIn wsX9_seek (wsV RX9 177 RX9 yX9_leads wsX9_leads) := goodIn_app (goodIn_of _ (by decide +kernel)) ggX9_seek_X9_leads
set_option maxRecDepth 20000 in
theorem ggX9_seek_X9_play : GoodIn wsX9_seek wsX9_play := goodIn_r _ [35, 19, 1, 2, 36, 3, 37, 38, 7, 39, 40, 41, 42, 43, 44, 45, 46, 47, 15, 16, 17, 18, 70, 71, 72, 73, 74, 75, 76, 77, 78, 79, 80, 81, 82, 83, 84, 85, 86, 87, 88, 89, 90, 91, 92, 93, 94, 95, 96, 97, 98, 99, 100] (by decide +kernel) (by decide +kernel)
set_option maxRecDepth 20000 in
theorem gX9_seek_X9_play : GoodIn wsX9_seek (wsV RX9 202 RX9 yX9_play wsX9_play) := goodIn_app (goodIn_of _ (by decide +kernel)) ggX9_seek_X9_play
set_option maxRecDepth 20000 in
theorem ggX9_seek_X9_join : GoodIn wsX9_seek wsX9_join := goodIn_r _ [51, 19, 15, 16, 17, 7, 18, 70, 71, 72, 73, 74, 75, 76, 77, 78, 79, 80, 81, 82, 83, 84, 85, 86, 87, 88, 89, 90, 91, 92, 93, 94, 95, 96, 97, 98, 99, 100] (by decide +kernel) (by decide +kernel)
set_option maxRecDepth 20000 in
theorem gX9_seek_X9_join : GoodIn wsX9_seek (wsV RX9 206 RX9 yX9_join wsX9_join) := goodIn_app (goodIn_of _ (by decide +kernel)) ggX9_seek_X9_join
set_option maxRecDepth 20000 in
theorem ggX9_seek_X9_goLeft : GoodIn wsX9_seek wsX9_goLeft := goodIn_r _ [55, 19, 56, 57, 58, 7, 59, 15, 16, 17, 18, 23, 24, 25, 26, 60, 61, 62, 63, 64, 36, 65, 1, 2, 3, 32, 33, 34, 35, 37, 38, 39, 40, 41, 42, 43, 44, 45, 46, 47, 48, 49, 50, 51, 70, 71, 72, 73, 74, 75, 76, 77, 78, 79, 80, 81, 82, 83, 84, 85, 86, 87, 88, 89, 90, 91, 92, 93, 94, 95, 96, 97, 98, 99, 100] (by decide +kernel) (by decide +kernel)
set_option maxRecDepth 20000 in
theorem gX9_seek_X9_goLeft : GoodIn wsX9_seek (wsV RX9 229 RX9 yX9_goLeft wsX9_goLeft) := goodIn_app (goodIn_of _ (by decide +kernel)) ggX9_seek_X9_goLeft
set_option maxRecDepth 20000 in
theorem ggX9_seek_X9_back : GoodIn wsX9_seek wsX9_back := goodIn_r _ [69, 19, 31, 70, 71, 72, 73, 74, 75, 76, 77, 78, 79, 80, 81, 82, 83, 84, 85, 86, 87, 88, 89, 90, 91, 92, 93, 94, 95, 96, 97, 98, 99, 100] (by decide +kernel) (by decide +kernel)
set_option maxRecDepth 20000 in
theorem gX9_seek_X9_back : GoodIn wsX9_seek (wsV RX9 232 RX9 yX9_back wsX9_back) := goodIn_app (goodIn_of _ (by decide +kernel)) ggX9_seek_X9_back
theorem dX9_seek_0 : decode cX9_seek 0 = .ok (.aload_n 0, 1) := by decide +kernel
theorem dX9_seek_1 : decode cX9_seek 1 = .ok (.iload_n 1, 1) := by decide +kernel
theorem dX9_seek_2 : decode cX9_seek 2 = .ok (.invokevirtual 237, 3) := by decide +kernel
theorem dX9_seek_5 : decode cX9_seek 5 = .ok (.istore_n 2, 1) := by decide +kernel
theorem dX9_seek_6 : decode cX9_seek 6 = .ok (.iload_n 2, 1) := by decide +kernel
theorem dX9_seek_7 : decode cX9_seek 7 = .ok (.ifCond .eq 5, 3) := by decide +kernel
theorem dX9_seek_10 : decode cX9_seek 10 = .ok (.iload_n 2, 1) := by decide +kernel
theorem dX9_seek_11 : decode cX9_seek 11 = .ok (.ireturn, 1) := by decide +kernel
theorem dX9_seek_12 : decode cX9_seek 12 = .ok (.iconst 0, 1) := by decide +kernel
theorem dX9_seek_13 : decode cX9_seek 13 = .ok (.istore_n 3, 1) := by decide +kernel
theorem dX9_seek_14 : decode cX9_seek 14 = .ok (.aload_n 0, 1) := by decide +kernel
theorem dX9_seek_15 : decode cX9_seek 15 = .ok (.invokevirtual 226, 3) := by decide +kernel
theorem dX9_seek_18 : decode cX9_seek 18 = .ok (.iconst 0, 1) := by decide +kernel
theorem dX9_seek_19 : decode cX9_seek 19 = .ok (.istore 4, 2) := by decide +kernel
theorem dX9_seek_21 : decode cX9_seek 21 = .ok (.iload 4, 2) := by decide +kernel
theorem dX9_seek_23 : decode cX9_seek 23 = .ok (.aload_n 0, 1) := by decide +kernel
theorem dX9_seek_24 : decode cX9_seek 24 = .ok (.invokevirtual 174, 3) := by decide +kernel
theorem dX9_seek_27 : decode cX9_seek 27 = .ok (.if_icmp .ge 77, 3) := by decide +kernel
theorem dX9_seek_30 : decode cX9_seek 30 = .ok (.iload 4, 2) := by decide +kernel
theorem dX9_seek_32 : decode cX9_seek 32 = .ok (.iload_n 1, 1) := by decide +kernel
theorem dX9_seek_33 : decode cX9_seek 33 = .ok (.if_icmp .eq 65, 3) := by decide +kernel
theorem dX9_seek_36 : decode cX9_seek 36 = .ok (.aload_n 0, 1) := by decide +kernel
theorem dX9_seek_37 : decode cX9_seek 37 = .ok (.iload 4, 2) := by decide +kernel
theorem dX9_seek_39 : decode cX9_seek 39 = .ok (.invokevirtual 177, 3) := by decide +kernel
theorem dX9_seek_42 : decode cX9_seek 42 = .ok (.ifCond .eq 56, 3) := by decide +kernel
theorem dX9_seek_45 : decode cX9_seek 45 = .ok (.aload_n 0, 1) := by decide +kernel
theorem dX9_seek_46 : decode cX9_seek 46 = .ok (.iload_n 1, 1) := by decide +kernel
theorem dX9_seek_47 : decode cX9_seek 47 = .ok (.iload 4, 2) := by decide +kernel
theorem dX9_seek_49 : decode cX9_seek 49 = .ok (.invokevirtual 202, 3) := by decide +kernel
theorem dX9_seek_52 : decode cX9_seek 52 = .ok (.aload_n 0, 1) := by decide +kernel
theorem dX9_seek_53 : decode cX9_seek 53 = .ok (.iload_n 1, 1) := by decide +kernel
theorem dX9_seek_54 : decode cX9_seek 54 = .ok (.iload 4, 2) := by decide +kernel
theorem dX9_seek_56 : decode cX9_seek 56 = .ok (.aload_n 0, 1) := by decide +kernel
theorem dX9_seek_57 : decode cX9_seek 57 = .ok (.getfield 183, 3) := by decide +kernel
theorem dX9_seek_60 : decode cX9_seek 60 = .ok (.aload_n 0, 1) := by decide +kernel
theorem dX9_seek_61 : decode cX9_seek 61 = .ok (.getfield 186, 3) := by decide +kernel
theorem dX9_seek_64 : decode cX9_seek 64 = .ok (.aload_n 0, 1) := by decide +kernel
theorem dX9_seek_65 : decode cX9_seek 65 = .ok (.getfield 199, 3) := by decide +kernel
theorem dX9_seek_68 : decode cX9_seek 68 = .ok (.invokevirtual 206, 3) := by decide +kernel
theorem dX9_seek_71 : decode cX9_seek 71 = .ok (.aload_n 0, 1) := by decide +kernel
theorem dX9_seek_72 : decode cX9_seek 72 = .ok (.invokevirtual 229, 3) := by decide +kernel
theorem dX9_seek_75 : decode cX9_seek 75 = .ok (.istore 5, 2) := by decide +kernel
theorem dX9_seek_77 : decode cX9_seek 77 = .ok (.aload_n 0, 1) := by decide +kernel
theorem dX9_seek_78 : decode cX9_seek 78 = .ok (.invokevirtual 232, 3) := by decide +kernel
theorem dX9_seek_81 : decode cX9_seek 81 = .ok (.iload_n 3, 1) := by decide +kernel
theorem dX9_seek_82 : decode cX9_seek 82 = .ok (.iload 5, 2) := by decide +kernel
theorem dX9_seek_84 : decode cX9_seek 84 = .ok (.iload_n 1, 1) := by decide +kernel
theorem dX9_seek_85 : decode cX9_seek 85 = .ok (.if_icmp .ne 10, 3) := by decide +kernel
theorem dX9_seek_88 : decode cX9_seek 88 = .ok (.iconst 1, 1) := by decide +kernel
theorem dX9_seek_89 : decode cX9_seek 89 = .ok (.iload 4, 2) := by decide +kernel
theorem dX9_seek_91 : decode cX9_seek 91 = .ok (.ishl, 1) := by decide +kernel
theorem dX9_seek_92 : decode cX9_seek 92 = .ok (.goto 4, 3) := by decide +kernel
theorem dX9_seek_95 : decode cX9_seek 95 = .ok (.iconst 0, 1) := by decide +kernel
theorem dX9_seek_96 : decode cX9_seek 96 = .ok (.ior, 1) := by decide +kernel
theorem dX9_seek_97 : decode cX9_seek 97 = .ok (.istore_n 3, 1) := by decide +kernel
theorem dX9_seek_98 : decode cX9_seek 98 = .ok (.iinc 4 1, 3) := by decide +kernel
theorem dX9_seek_101 : decode cX9_seek 101 = .ok (.goto (-80), 3) := by decide +kernel
theorem dX9_seek_104 : decode cX9_seek 104 = .ok (.iload_n 3, 1) := by decide +kernel
theorem dX9_seek_105 : decode cX9_seek 105 = .ok (.ireturn, 1) := by decide +kernel
set_option maxRecDepth 20000 in
theorem ggX9_layHands_X9_players : GoodIn wsX9_layHands wsX9_players := goodIn_r _ [7, 2, 12, 13, 14, 15, 16, 17, 18, 19, 20, 21, 22, 23, 24, 25, 26, 27, 28, 29, 30, 31, 32, 33, 34, 35, 36, 37, 38, 39, 40, 41, 42] (by decide +kernel) (by decide +kernel)
set_option maxRecDepth 20000 in
theorem gX9_layHands_X9_players : GoodIn wsX9_layHands (wsV RX9 174 RX9 yX9_players wsX9_players) := goodIn_app (goodIn_of _ (by decide +kernel)) ggX9_layHands_X9_players
set_option maxRecDepth 20000 in
theorem ggX9_layHands_X9_leads : GoodIn wsX9_layHands wsX9_leads := goodIn_r _ [11, 2, 12, 13, 14, 15, 16, 17, 18, 19, 20, 21, 22, 23, 24, 25, 26, 27, 28, 29, 30, 31, 32, 33, 34, 35, 36, 37, 38, 39, 40, 41, 42] (by decide +kernel) (by decide +kernel)
set_option maxRecDepth 20000 in
theorem gX9_layHands_X9_leads : GoodIn wsX9_layHands (wsV RX9 177 RX9 yX9_leads wsX9_leads) := goodIn_app (goodIn_of _ (by decide +kernel)) ggX9_layHands_X9_leads
theorem dX9_layHands_0 : decode cX9_layHands 0 = .ok (.iload_n 1, 1) := by decide +kernel
theorem dX9_layHands_1 : decode cX9_layHands 1 = .ok (.istore_n 2, 1) := by decide +kernel
theorem dX9_layHands_2 : decode cX9_layHands 2 = .ok (.iconst 0, 1) := by decide +kernel
theorem dX9_layHands_3 : decode cX9_layHands 3 = .ok (.istore_n 3, 1) := by decide +kernel
theorem dX9_layHands_4 : decode cX9_layHands 4 = .ok (.aload_n 0, 1) := by decide +kernel
theorem dX9_layHands_5 : decode cX9_layHands 5 = .ok (.invokevirtual 174, 3) := by decide +kernel
theorem dX9_layHands_8 : decode cX9_layHands 8 = .ok (.iconst 1, 1) := by decide +kernel
theorem dX9_layHands_9 : decode cX9_layHands 9 = .ok (.isub, 1) := by decide +kernel
theorem dX9_layHands_10 : decode cX9_layHands 10 = .ok (.istore 4, 2) := by decide +kernel
theorem dX9_layHands_12 : decode cX9_layHands 12 = .ok (.iload 4, 2) := by decide +kernel
theorem dX9_layHands_14 : decode cX9_layHands 14 = .ok (.ifCond .lt 67, 3) := by decide +kernel
theorem dX9_layHands_17 : decode cX9_layHands 17 = .ok (.iload_n 2, 1) := by decide +kernel
theorem dX9_layHands_18 : decode cX9_layHands 18 = .ok (.iconst 3, 1) := by decide +kernel
theorem dX9_layHands_19 : decode cX9_layHands 19 = .ok (.irem, 1) := by decide +kernel
theorem dX9_layHands_20 : decode cX9_layHands 20 = .ok (.istore 5, 2) := by decide +kernel
theorem dX9_layHands_22 : decode cX9_layHands 22 = .ok (.iload_n 2, 1) := by decide +kernel
theorem dX9_layHands_23 : decode cX9_layHands 23 = .ok (.iconst 3, 1) := by decide +kernel
theorem dX9_layHands_24 : decode cX9_layHands 24 = .ok (.idiv, 1) := by decide +kernel
theorem dX9_layHands_25 : decode cX9_layHands 25 = .ok (.istore_n 2, 1) := by decide +kernel
theorem dX9_layHands_26 : decode cX9_layHands 26 = .ok (.iload_n 3, 1) := by decide +kernel
theorem dX9_layHands_27 : decode cX9_layHands 27 = .ok (.iload 5, 2) := by decide +kernel
theorem dX9_layHands_29 : decode cX9_layHands 29 = .ok (.aload_n 0, 1) := by decide +kernel
theorem dX9_layHands_30 : decode cX9_layHands 30 = .ok (.getfield 23, 3) := by decide +kernel
theorem dX9_layHands_33 : decode cX9_layHands 33 = .ok (.bipush 9, 2) := by decide +kernel
theorem dX9_layHands_35 : decode cX9_layHands 35 = .ok (.iload 4, 2) := by decide +kernel
theorem dX9_layHands_37 : decode cX9_layHands 37 = .ok (.iadd, 1) := by decide +kernel
theorem dX9_layHands_38 : decode cX9_layHands 38 = .ok (.iaload, 1) := by decide +kernel
theorem dX9_layHands_39 : decode cX9_layHands 39 = .ok (.if_icmp .ne 7, 3) := by decide +kernel
theorem dX9_layHands_42 : decode cX9_layHands 42 = .ok (.iconst 0, 1) := by decide +kernel
theorem dX9_layHands_43 : decode cX9_layHands 43 = .ok (.goto 18, 3) := by decide +kernel
theorem dX9_layHands_46 : decode cX9_layHands 46 = .ok (.aload_n 0, 1) := by decide +kernel
theorem dX9_layHands_47 : decode cX9_layHands 47 = .ok (.iload 4, 2) := by decide +kernel
theorem dX9_layHands_49 : decode cX9_layHands 49 = .ok (.invokevirtual 177, 3) := by decide +kernel
theorem dX9_layHands_52 : decode cX9_layHands 52 = .ok (.ifCond .eq 7, 3) := by decide +kernel
theorem dX9_layHands_55 : decode cX9_layHands 55 = .ok (.iconst 1, 1) := by decide +kernel
theorem dX9_layHands_56 : decode cX9_layHands 56 = .ok (.goto 5, 3) := by decide +kernel
theorem dX9_layHands_59 : decode cX9_layHands 59 = .ok (.bipush 100, 2) := by decide +kernel
theorem dX9_layHands_61 : decode cX9_layHands 61 = .ok (.iadd, 1) := by decide +kernel
theorem dX9_layHands_62 : decode cX9_layHands 62 = .ok (.istore_n 3, 1) := by decide +kernel
theorem dX9_layHands_63 : decode cX9_layHands 63 = .ok (.aload_n 0, 1) := by decide +kernel
theorem dX9_layHands_64 : decode cX9_layHands 64 = .ok (.getfield 7, 3) := by decide +kernel
theorem dX9_layHands_67 : decode cX9_layHands 67 = .ok (.bipush 9, 2) := by decide +kernel
theorem dX9_layHands_69 : decode cX9_layHands 69 = .ok (.iload 4, 2) := by decide +kernel
theorem dX9_layHands_71 : decode cX9_layHands 71 = .ok (.iadd, 1) := by decide +kernel
theorem dX9_layHands_72 : decode cX9_layHands 72 = .ok (.iload 5, 2) := by decide +kernel
theorem dX9_layHands_74 : decode cX9_layHands 74 = .ok (.iastore, 1) := by decide +kernel
theorem dX9_layHands_75 : decode cX9_layHands 75 = .ok (.iinc 4 (-1), 3) := by decide +kernel
theorem dX9_layHands_78 : decode cX9_layHands 78 = .ok (.goto (-66), 3) := by decide +kernel
theorem dX9_layHands_81 : decode cX9_layHands 81 = .ok (.iload_n 3, 1) := by decide +kernel
theorem dX9_layHands_82 : decode cX9_layHands 82 = .ok (.ireturn, 1) := by decide +kernel
set_option maxRecDepth 20000 in
theorem ggX9_findFewest_X9_players : GoodIn wsX9_findFewest wsX9_players := goodIn_r _ [9, 3, 64, 65, 66, 67, 68, 69, 70, 71, 72, 73, 74, 75, 76, 77, 78, 79, 80, 81, 82, 83, 84, 85, 86, 87, 88, 89, 90, 91, 92, 93, 94] (by decide +kernel) (by decide +kernel)
set_option maxRecDepth 20000 in
theorem gX9_findFewest_X9_players : GoodIn wsX9_findFewest (wsV RX9 174 RX9 yX9_players wsX9_players) := goodIn_app (goodIn_of _ (by decide +kernel)) ggX9_findFewest_X9_players
set_option maxRecDepth 20000 in
theorem ggX9_findFewest_X9_start : GoodIn wsX9_findFewest wsX9_start := goodIn_r _ [13, 14, 3, 64, 65, 66, 67, 68, 69, 70, 71, 72, 73, 74, 75, 76, 77, 78, 79, 80, 81, 82, 83, 84, 85, 86, 87, 88, 89, 90, 91, 92, 93, 94] (by decide +kernel) (by decide +kernel)
set_option maxRecDepth 20000 in
theorem gX9_findFewest_X9_start : GoodIn wsX9_findFewest (wsV RX9 226 RX9 yX9_start wsX9_start) := goodIn_app (goodIn_of _ (by decide +kernel)) ggX9_findFewest_X9_start
set_option maxRecDepth 20000 in
theorem ggX9_findFewest_X9_layHands : GoodIn wsX9_findFewest wsX9_layHands := goodIn_r _ [18, 14, 3, 5, 6, 7, 8, 9, 19, 20, 21, 22, 64, 65, 66, 67, 68, 69, 70, 71, 72, 73, 74, 75, 76, 77, 78, 79, 80, 81, 82, 83, 84, 85, 86, 87, 88, 89, 90, 91, 92, 93, 94] (by decide +kernel) (by decide +kernel)
set_option maxRecDepth 20000 in
theorem gX9_findFewest_X9_layHands : GoodIn wsX9_findFewest (wsV RX9 246 RX9 yX9_layHands wsX9_layHands) := goodIn_app (goodIn_of _ (by decide +kernel)) ggX9_findFewest_X9_layHands
set_option maxRecDepth 20000 in
theorem ggX9_findFewest_X9_goLeft : GoodIn wsX9_findFewest wsX9_goLeft := goodIn_r _ [26, 3, 27, 28, 29, 8, 30, 5, 6, 7, 9, 19, 20, 21, 22, 31, 32, 33, 34, 35, 36, 37, 38, 39, 40, 41, 42, 43, 44, 45, 46, 47, 48, 49, 50, 51, 52, 53, 54, 55, 56, 57, 58, 59, 64, 65, 66, 67, 68, 69, 70, 71, 72, 73, 74, 75, 76, 77, 78, 79, 80, 81, 82, 83, 84, 85, 86, 87, 88, 89, 90, 91, 92, 93, 94] (by decide +kernel) (by decide +kernel)
set_option maxRecDepth 20000 in
theorem gX9_findFewest_X9_goLeft : GoodIn wsX9_findFewest (wsV RX9 229 RX9 yX9_goLeft wsX9_goLeft) := goodIn_app (goodIn_of _ (by decide +kernel)) ggX9_findFewest_X9_goLeft
set_option maxRecDepth 20000 in
theorem ggX9_findFewest_X9_back : GoodIn wsX9_findFewest wsX9_back := goodIn_r _ [63, 3, 14, 64, 65, 66, 67, 68, 69, 70, 71, 72, 73, 74, 75, 76, 77, 78, 79, 80, 81, 82, 83, 84, 85, 86, 87, 88, 89, 90, 91, 92, 93, 94] (by decide +kernel) (by decide +kernel)
set_option maxRecDepth 20000 in
theorem gX9_findFewest_X9_back : GoodIn wsX9_findFewest (wsV RX9 232 RX9 yX9_back wsX9_back) := goodIn_app (goodIn_of _ (by decide +kernel)) ggX9_findFewest_X9_back
theorem dX9_findFewest_0 : decode cX9_findFewest 0 = .ok (.iconst 1, 1) := by decide +kernel
theorem dX9_findFewest_1 : decode cX9_findFewest 1 = .ok (.istore_n 2, 1) := by decide +kernel
theorem dX9_findFewest_2 : decode cX9_findFewest 2 = .ok (.iconst 0, 1) := by decide +kernel
theorem dX9_findFewest_3 : decode cX9_findFewest 3 = .ok (.istore_n 3, 1) := by decide +kernel
theorem dX9_findFewest_4 : decode cX9_findFewest 4 = .ok (.iload_n 3, 1) := by decide +kernel
theorem dX9_findFewest_5 : decode cX9_findFewest 5 = .ok (.aload_n 0, 1) := by decide +kernel
theorem dX9_findFewest_6 : decode cX9_findFewest 6 = .ok (.invokevirtual 174, 3) := by decide +kernel
theorem dX9_findFewest_9 : decode cX9_findFewest 9 = .ok (.if_icmp .ge 13, 3) := by decide +kernel
theorem dX9_findFewest_12 : decode cX9_findFewest 12 = .ok (.iload_n 2, 1) := by decide +kernel
theorem dX9_findFewest_13 : decode cX9_findFewest 13 = .ok (.iconst 3, 1) := by decide +kernel
theorem dX9_findFewest_14 : decode cX9_findFewest 14 = .ok (.imul, 1) := by decide +kernel
theorem dX9_findFewest_15 : decode cX9_findFewest 15 = .ok (.istore_n 2, 1) := by decide +kernel
theorem dX9_findFewest_16 : decode cX9_findFewest 16 = .ok (.iinc 3 1, 3) := by decide +kernel
theorem dX9_findFewest_19 : decode cX9_findFewest 19 = .ok (.goto (-15), 3) := by decide +kernel
theorem dX9_findFewest_22 : decode cX9_findFewest 22 = .ok (.aload_n 0, 1) := by decide +kernel
theorem dX9_findFewest_23 : decode cX9_findFewest 23 = .ok (.bipush 100, 2) := by decide +kernel
theorem dX9_findFewest_25 : decode cX9_findFewest 25 = .ok (.putfield 243, 3) := by decide +kernel
theorem dX9_findFewest_28 : decode cX9_findFewest 28 = .ok (.aload_n 0, 1) := by decide +kernel
theorem dX9_findFewest_29 : decode cX9_findFewest 29 = .ok (.invokevirtual 226, 3) := by decide +kernel
theorem dX9_findFewest_32 : decode cX9_findFewest 32 = .ok (.iconst 0, 1) := by decide +kernel
theorem dX9_findFewest_33 : decode cX9_findFewest 33 = .ok (.istore_n 3, 1) := by decide +kernel
theorem dX9_findFewest_34 : decode cX9_findFewest 34 = .ok (.iload_n 3, 1) := by decide +kernel
theorem dX9_findFewest_35 : decode cX9_findFewest 35 = .ok (.iload_n 2, 1) := by decide +kernel
theorem dX9_findFewest_36 : decode cX9_findFewest 36 = .ok (.if_icmp .ge 127, 3) := by decide +kernel
theorem dX9_findFewest_39 : decode cX9_findFewest 39 = .ok (.aload_n 0, 1) := by decide +kernel
theorem dX9_findFewest_40 : decode cX9_findFewest 40 = .ok (.iload_n 3, 1) := by decide +kernel
theorem dX9_findFewest_41 : decode cX9_findFewest 41 = .ok (.invokevirtual 246, 3) := by decide +kernel
theorem dX9_findFewest_44 : decode cX9_findFewest 44 = .ok (.istore 4, 2) := by decide +kernel
theorem dX9_findFewest_46 : decode cX9_findFewest 46 = .ok (.iload 4, 2) := by decide +kernel
theorem dX9_findFewest_48 : decode cX9_findFewest 48 = .ok (.aload_n 0, 1) := by decide +kernel
theorem dX9_findFewest_49 : decode cX9_findFewest 49 = .ok (.getfield 243, 3) := by decide +kernel
theorem dX9_findFewest_52 : decode cX9_findFewest 52 = .ok (.if_icmp .ge 101, 3) := by decide +kernel
theorem dX9_findFewest_55 : decode cX9_findFewest 55 = .ok (.iconst 0, 1) := by decide +kernel
theorem dX9_findFewest_56 : decode cX9_findFewest 56 = .ok (.istore 5, 2) := by decide +kernel
theorem dX9_findFewest_58 : decode cX9_findFewest 58 = .ok (.iload 5, 2) := by decide +kernel
theorem dX9_findFewest_60 : decode cX9_findFewest 60 = .ok (.aload_n 0, 1) := by decide +kernel
theorem dX9_findFewest_61 : decode cX9_findFewest 61 = .ok (.invokevirtual 174, 3) := by decide +kernel
theorem dX9_findFewest_64 : decode cX9_findFewest 64 = .ok (.if_icmp .ge 26, 3) := by decide +kernel
theorem dX9_findFewest_67 : decode cX9_findFewest 67 = .ok (.aload_n 0, 1) := by decide +kernel
theorem dX9_findFewest_68 : decode cX9_findFewest 68 = .ok (.getfield 38, 3) := by decide +kernel
theorem dX9_findFewest_71 : decode cX9_findFewest 71 = .ok (.iload 5, 2) := by decide +kernel
theorem dX9_findFewest_73 : decode cX9_findFewest 73 = .ok (.aload_n 0, 1) := by decide +kernel
theorem dX9_findFewest_74 : decode cX9_findFewest 74 = .ok (.getfield 7, 3) := by decide +kernel
theorem dX9_findFewest_77 : decode cX9_findFewest 77 = .ok (.bipush 9, 2) := by decide +kernel
theorem dX9_findFewest_79 : decode cX9_findFewest 79 = .ok (.iload 5, 2) := by decide +kernel
theorem dX9_findFewest_81 : decode cX9_findFewest 81 = .ok (.iadd, 1) := by decide +kernel
theorem dX9_findFewest_82 : decode cX9_findFewest 82 = .ok (.iaload, 1) := by decide +kernel
theorem dX9_findFewest_83 : decode cX9_findFewest 83 = .ok (.iastore, 1) := by decide +kernel
theorem dX9_findFewest_84 : decode cX9_findFewest 84 = .ok (.iinc 5 1, 3) := by decide +kernel
theorem dX9_findFewest_87 : decode cX9_findFewest 87 = .ok (.goto (-29), 3) := by decide +kernel
theorem dX9_findFewest_90 : decode cX9_findFewest 90 = .ok (.aload_n 0, 1) := by decide +kernel
theorem dX9_findFewest_91 : decode cX9_findFewest 91 = .ok (.invokevirtual 229, 3) := by decide +kernel
theorem dX9_findFewest_94 : decode cX9_findFewest 94 = .ok (.istore 5, 2) := by decide +kernel
theorem dX9_findFewest_96 : decode cX9_findFewest 96 = .ok (.iconst 0, 1) := by decide +kernel
theorem dX9_findFewest_97 : decode cX9_findFewest 97 = .ok (.istore 6, 2) := by decide +kernel
theorem dX9_findFewest_99 : decode cX9_findFewest 99 = .ok (.iload 6, 2) := by decide +kernel
theorem dX9_findFewest_101 : decode cX9_findFewest 101 = .ok (.aload_n 0, 1) := by decide +kernel
theorem dX9_findFewest_102 : decode cX9_findFewest 102 = .ok (.invokevirtual 174, 3) := by decide +kernel
theorem dX9_findFewest_105 : decode cX9_findFewest 105 = .ok (.if_icmp .ge 29, 3) := by decide +kernel
theorem dX9_findFewest_108 : decode cX9_findFewest 108 = .ok (.iload 5, 2) := by decide +kernel
theorem dX9_findFewest_110 : decode cX9_findFewest 110 = .ok (.iload_n 1, 1) := by decide +kernel
theorem dX9_findFewest_111 : decode cX9_findFewest 111 = .ok (.if_icmp .ne 23, 3) := by decide +kernel
theorem dX9_findFewest_114 : decode cX9_findFewest 114 = .ok (.aload_n 0, 1) := by decide +kernel
theorem dX9_findFewest_115 : decode cX9_findFewest 115 = .ok (.getfield 56, 3) := by decide +kernel
theorem dX9_findFewest_118 : decode cX9_findFewest 118 = .ok (.iload 6, 2) := by decide +kernel
theorem dX9_findFewest_120 : decode cX9_findFewest 120 = .ok (.aload_n 0, 1) := by decide +kernel
theorem dX9_findFewest_121 : decode cX9_findFewest 121 = .ok (.getfield 38, 3) := by decide +kernel
theorem dX9_findFewest_124 : decode cX9_findFewest 124 = .ok (.iload 6, 2) := by decide +kernel
theorem dX9_findFewest_126 : decode cX9_findFewest 126 = .ok (.iaload, 1) := by decide +kernel
theorem dX9_findFewest_127 : decode cX9_findFewest 127 = .ok (.iastore, 1) := by decide +kernel
theorem dX9_findFewest_128 : decode cX9_findFewest 128 = .ok (.iinc 6 1, 3) := by decide +kernel
theorem dX9_findFewest_131 : decode cX9_findFewest 131 = .ok (.goto (-32), 3) := by decide +kernel
theorem dX9_findFewest_134 : decode cX9_findFewest 134 = .ok (.aload_n 0, 1) := by decide +kernel
theorem dX9_findFewest_135 : decode cX9_findFewest 135 = .ok (.iload 5, 2) := by decide +kernel
theorem dX9_findFewest_137 : decode cX9_findFewest 137 = .ok (.iload_n 1, 1) := by decide +kernel
theorem dX9_findFewest_138 : decode cX9_findFewest 138 = .ok (.if_icmp .ne 8, 3) := by decide +kernel
theorem dX9_findFewest_141 : decode cX9_findFewest 141 = .ok (.iload 4, 2) := by decide +kernel
theorem dX9_findFewest_143 : decode cX9_findFewest 143 = .ok (.goto 7, 3) := by decide +kernel
theorem dX9_findFewest_146 : decode cX9_findFewest 146 = .ok (.aload_n 0, 1) := by decide +kernel
theorem dX9_findFewest_147 : decode cX9_findFewest 147 = .ok (.getfield 243, 3) := by decide +kernel
theorem dX9_findFewest_150 : decode cX9_findFewest 150 = .ok (.putfield 243, 3) := by decide +kernel
theorem dX9_findFewest_153 : decode cX9_findFewest 153 = .ok (.aload_n 0, 1) := by decide +kernel
theorem dX9_findFewest_154 : decode cX9_findFewest 154 = .ok (.invokevirtual 232, 3) := by decide +kernel
theorem dX9_findFewest_157 : decode cX9_findFewest 157 = .ok (.iinc 3 1, 3) := by decide +kernel
theorem dX9_findFewest_160 : decode cX9_findFewest 160 = .ok (.goto (-126), 3) := by decide +kernel
theorem dX9_findFewest_163 : decode cX9_findFewest 163 = .ok (.return_, 1) := by decide +kernel
set_option maxRecDepth 20000 in
theorem ggX9_fewest_X9_isPlayer : GoodIn wsX9_fewest wsX9_isPlayer := goodIn_r _ [9, 10, 11, 12, 8, 13, 14, 15, 16, 17, 82, 83, 84, 85, 86, 87, 88, 89, 90, 91, 92, 93, 94, 95, 96, 97, 98, 99, 100, 101, 102, 103, 104, 105, 106, 107, 108, 109, 110, 111, 112] (by decide +kernel) (by decide +kernel)
set_option maxRecDepth 20000 in
theorem gX9_fewest_X9_isPlayer : GoodIn wsX9_fewest (wsV RX9 210 RX9 yX9_isPlayer wsX9_isPlayer) := goodIn_app (goodIn_of _ (by decide +kernel)) ggX9_fewest_X9_isPlayer
set_option maxRecDepth 20000 in
theorem ggX9_fewest_X9_notLeading : GoodIn wsX9_fewest wsX9_notLeading := goodIn_r _ [21, 1, 22, 5, 6, 7, 8, 9, 10, 11, 12, 13, 14, 15, 16, 17, 23, 24, 25, 26, 82, 83, 84, 85, 86, 87, 88, 89, 90, 91, 92, 93, 94, 95, 96, 97, 98, 99, 100, 101, 102, 103, 104, 105, 106, 107, 108, 109, 110, 111, 112] (by decide +kernel) (by decide +kernel)
set_option maxRecDepth 20000 in
theorem gX9_fewest_X9_notLeading : GoodIn wsX9_fewest (wsV RX9 237 RX9 yX9_notLeading wsX9_notLeading) := goodIn_app (goodIn_of _ (by decide +kernel)) ggX9_fewest_X9_notLeading
set_option maxRecDepth 20000 in
theorem ggX9_fewest_X9_findFewest : GoodIn wsX9_fewest wsX9_findFewest := goodIn_r _ [30, 2, 31, 14, 4, 10, 11, 12, 8, 13, 32, 33, 34, 35, 36, 37, 38, 39, 40, 23, 24, 25, 26, 41, 42, 43, 44, 45, 46, 47, 48, 49, 50, 51, 52, 53, 54, 55, 56, 57, 58, 59, 60, 61, 62, 63, 64, 65, 66, 67, 68, 69, 70, 71, 72, 73, 74, 75, 76, 77, 78, 79, 80, 81, 82, 83, 84, 85, 86, 87, 88, 89, 90, 91, 92, 93, 94, 95, 96, 97, 98, 99, 100, 101, 102, 103, 104, 105, 106, 107, 108, 109, 110, 111, 112] (by decide +kernel) (by decide +kernel)
set_option maxRecDepth 20000 in
theorem gX9_fewest_X9_findFewest : GoodIn wsX9_fewest (wsV RX9 249 RX9 yX9_findFewest wsX9_findFewest) := goodIn_app (goodIn_of _ (by decide +kernel)) ggX9_fewest_X9_findFewest
theorem dX9_fewest_0 : decode cX9_fewest 0 = .ok (.iload_n 2, 1) := by decide +kernel
theorem dX9_fewest_1 : decode cX9_fewest 1 = .ok (.iconst (-1), 1) := by decide +kernel
theorem dX9_fewest_2 : decode cX9_fewest 2 = .ok (.if_icmp .eq 16, 3) := by decide +kernel
theorem dX9_fewest_5 : decode cX9_fewest 5 = .ok (.aload_n 0, 1) := by decide +kernel
theorem dX9_fewest_6 : decode cX9_fewest 6 = .ok (.iload_n 2, 1) := by decide +kernel
theorem dX9_fewest_7 : decode cX9_fewest 7 = .ok (.invokevirtual 210, 3) := by decide +kernel
theorem dX9_fewest_10 : decode cX9_fewest 10 = .ok (.ifCond .ne 8, 3) := by decide +kernel
theorem dX9_fewest_13 : decode cX9_fewest 13 = .ok (.ldc 79, 2) := by decide +kernel
theorem dX9_fewest_15 : decode cX9_fewest 15 = .ok (.goto 8, 3) := by decide +kernel
theorem dX9_fewest_18 : decode cX9_fewest 18 = .ok (.aload_n 0, 1) := by decide +kernel
theorem dX9_fewest_19 : decode cX9_fewest 19 = .ok (.iload_n 1, 1) := by decide +kernel
theorem dX9_fewest_20 : decode cX9_fewest 20 = .ok (.invokevirtual 237, 3) := by decide +kernel
theorem dX9_fewest_23 : decode cX9_fewest 23 = .ok (.istore_n 3, 1) := by decide +kernel
theorem dX9_fewest_24 : decode cX9_fewest 24 = .ok (.iload_n 3, 1) := by decide +kernel
theorem dX9_fewest_25 : decode cX9_fewest 25 = .ok (.ifCond .eq 5, 3) := by decide +kernel
theorem dX9_fewest_28 : decode cX9_fewest 28 = .ok (.iload_n 3, 1) := by decide +kernel
theorem dX9_fewest_29 : decode cX9_fewest 29 = .ok (.ireturn, 1) := by decide +kernel
theorem dX9_fewest_30 : decode cX9_fewest 30 = .ok (.aload_n 0, 1) := by decide +kernel
theorem dX9_fewest_31 : decode cX9_fewest 31 = .ok (.iload_n 1, 1) := by decide +kernel
theorem dX9_fewest_32 : decode cX9_fewest 32 = .ok (.invokevirtual 249, 3) := by decide +kernel
theorem dX9_fewest_35 : decode cX9_fewest 35 = .ok (.aload_n 0, 1) := by decide +kernel
theorem dX9_fewest_36 : decode cX9_fewest 36 = .ok (.getfield 243, 3) := by decide +kernel
theorem dX9_fewest_39 : decode cX9_fewest 39 = .ok (.bipush 100, 2) := by decide +kernel
theorem dX9_fewest_41 : decode cX9_fewest 41 = .ok (.if_icmp .ne 8, 3) := by decide +kernel
theorem dX9_fewest_44 : decode cX9_fewest 44 = .ok (.ldc 252, 2) := by decide +kernel
theorem dX9_fewest_46 : decode cX9_fewest 46 = .ok (.goto 21, 3) := by decide +kernel
theorem dX9_fewest_49 : decode cX9_fewest 49 = .ok (.iload_n 2, 1) := by decide +kernel
theorem dX9_fewest_50 : decode cX9_fewest 50 = .ok (.iconst (-1), 1) := by decide +kernel
theorem dX9_fewest_51 : decode cX9_fewest 51 = .ok (.if_icmp .ne 10, 3) := by decide +kernel
theorem dX9_fewest_54 : decode cX9_fewest 54 = .ok (.aload_n 0, 1) := by decide +kernel
theorem dX9_fewest_55 : decode cX9_fewest 55 = .ok (.getfield 243, 3) := by decide +kernel
theorem dX9_fewest_58 : decode cX9_fewest 58 = .ok (.goto 9, 3) := by decide +kernel
theorem dX9_fewest_61 : decode cX9_fewest 61 = .ok (.aload_n 0, 1) := by decide +kernel
theorem dX9_fewest_62 : decode cX9_fewest 62 = .ok (.getfield 56, 3) := by decide +kernel
theorem dX9_fewest_65 : decode cX9_fewest 65 = .ok (.iload_n 2, 1) := by decide +kernel
theorem dX9_fewest_66 : decode cX9_fewest 66 = .ok (.iaload, 1) := by decide +kernel
theorem dX9_fewest_67 : decode cX9_fewest 67 = .ok (.ireturn, 1) := by decide +kernel
set_option maxRecDepth 20000 in
theorem ggX9_begun_X9_isPlayer : GoodIn wsX9_begun wsX9_isPlayer := goodIn_r _ [8, 9, 10, 11, 7, 12, 3, 13, 14, 15, 66, 67, 68, 69, 70, 71, 72, 73, 74, 75, 76, 77, 78, 79, 80, 81, 82, 83, 84, 85, 86, 87, 88, 89, 90, 91, 92, 93, 94, 95, 96] (by decide +kernel) (by decide +kernel)
set_option maxRecDepth 20000 in
theorem gX9_begun_X9_isPlayer : GoodIn wsX9_begun (wsV RX9 210 RX9 yX9_isPlayer wsX9_isPlayer) := goodIn_app (goodIn_of _ (by decide +kernel)) ggX9_begun_X9_isPlayer
set_option maxRecDepth 20000 in
theorem ggX9_begun_X9_leads : GoodIn wsX9_begun wsX9_leads := goodIn_r _ [19, 3, 66, 67, 68, 69, 70, 71, 72, 73, 74, 75, 76, 77, 78, 79, 80, 81, 82, 83, 84, 85, 86, 87, 88, 89, 90, 91, 92, 93, 94, 95, 96] (by decide +kernel) (by decide +kernel)
set_option maxRecDepth 20000 in
theorem gX9_begun_X9_leads : GoodIn wsX9_begun (wsV RX9 177 RX9 yX9_leads wsX9_leads) := goodIn_app (goodIn_of _ (by decide +kernel)) ggX9_begun_X9_leads
set_option maxRecDepth 20000 in
theorem ggX9_begun_X9_start : GoodIn wsX9_begun wsX9_start := goodIn_r _ [23, 24, 3, 66, 67, 68, 69, 70, 71, 72, 73, 74, 75, 76, 77, 78, 79, 80, 81, 82, 83, 84, 85, 86, 87, 88, 89, 90, 91, 92, 93, 94, 95, 96] (by decide +kernel) (by decide +kernel)
set_option maxRecDepth 20000 in
theorem gX9_begun_X9_start : GoodIn wsX9_begun (wsV RX9 226 RX9 yX9_start wsX9_start) := goodIn_app (goodIn_of _ (by decide +kernel)) ggX9_begun_X9_start
set_option maxRecDepth 20000 in
theorem ggX9_begun_X9_goLeft : GoodIn wsX9_begun wsX9_goLeft := goodIn_r _ [28, 3, 29, 30, 31, 7, 32, 9, 10, 11, 12, 16, 17, 18, 19, 33, 34, 35, 36, 37, 38, 39, 40, 41, 42, 43, 44, 45, 46, 47, 48, 49, 50, 51, 52, 53, 54, 55, 56, 57, 58, 59, 60, 61, 66, 67, 68, 69, 70, 71, 72, 73, 74, 75, 76, 77, 78, 79, 80, 81, 82, 83, 84, 85, 86, 87, 88, 89, 90, 91, 92, 93, 94, 95, 96] (by decide +kernel) (by decide +kernel)
set_option maxRecDepth 20000 in
theorem gX9_begun_X9_goLeft : GoodIn wsX9_begun (wsV RX9 229 RX9 yX9_goLeft wsX9_goLeft) := goodIn_app (goodIn_of _ (by decide +kernel)) ggX9_begun_X9_goLeft
set_option maxRecDepth 20000 in
theorem ggX9_begun_X9_back : GoodIn wsX9_begun wsX9_back := goodIn_r _ [65, 3, 24, 66, 67, 68, 69, 70, 71, 72, 73, 74, 75, 76, 77, 78, 79, 80, 81, 82, 83, 84, 85, 86, 87, 88, 89, 90, 91, 92, 93, 94, 95, 96] (by decide +kernel) (by decide +kernel)
set_option maxRecDepth 20000 in
theorem gX9_begun_X9_back : GoodIn wsX9_begun (wsV RX9 232 RX9 yX9_back wsX9_back) := goodIn_app (goodIn_of _ (by decide +kernel)) ggX9_begun_X9_back
theorem dX9_begun_0 : decode cX9_begun 0 = .ok (.aload_n 0, 1) := by decide +kernel
theorem dX9_begun_1 : decode cX9_begun 1 = .ok (.iload_n 1, 1) := by decide +kernel
theorem dX9_begun_2 : decode cX9_begun 2 = .ok (.invokevirtual 210, 3) := by decide +kernel
theorem dX9_begun_5 : decode cX9_begun 5 = .ok (.ifCond .eq 11, 3) := by decide +kernel
theorem dX9_begun_8 : decode cX9_begun 8 = .ok (.aload_n 0, 1) := by decide +kernel
theorem dX9_begun_9 : decode cX9_begun 9 = .ok (.iload_n 2, 1) := by decide +kernel
theorem dX9_begun_10 : decode cX9_begun 10 = .ok (.invokevirtual 210, 3) := by decide +kernel
theorem dX9_begun_13 : decode cX9_begun 13 = .ok (.ifCond .ne 6, 3) := by decide +kernel
theorem dX9_begun_16 : decode cX9_begun 16 = .ok (.ldc 79, 2) := by decide +kernel
theorem dX9_begun_18 : decode cX9_begun 18 = .ok (.ireturn, 1) := by decide +kernel
theorem dX9_begun_19 : decode cX9_begun 19 = .ok (.aload_n 0, 1) := by decide +kernel
theorem dX9_begun_20 : decode cX9_begun 20 = .ok (.iload_n 1, 1) := by decide +kernel
theorem dX9_begun_21 : decode cX9_begun 21 = .ok (.invokevirtual 177, 3) := by decide +kernel
theorem dX9_begun_24 : decode cX9_begun 24 = .ok (.ifCond .eq 11, 3) := by decide +kernel
theorem dX9_begun_27 : decode cX9_begun 27 = .ok (.aload_n 0, 1) := by decide +kernel
theorem dX9_begun_28 : decode cX9_begun 28 = .ok (.iload_n 2, 1) := by decide +kernel
theorem dX9_begun_29 : decode cX9_begun 29 = .ok (.invokevirtual 177, 3) := by decide +kernel
theorem dX9_begun_32 : decode cX9_begun 32 = .ok (.ifCond .ne 6, 3) := by decide +kernel
theorem dX9_begun_35 : decode cX9_begun 35 = .ok (.ldc 213, 2) := by decide +kernel
theorem dX9_begun_37 : decode cX9_begun 37 = .ok (.ireturn, 1) := by decide +kernel
theorem dX9_begun_38 : decode cX9_begun 38 = .ok (.iconst 0, 1) := by decide +kernel
theorem dX9_begun_39 : decode cX9_begun 39 = .ok (.istore_n 3, 1) := by decide +kernel
theorem dX9_begun_40 : decode cX9_begun 40 = .ok (.aload_n 0, 1) := by decide +kernel
theorem dX9_begun_41 : decode cX9_begun 41 = .ok (.invokevirtual 226, 3) := by decide +kernel
theorem dX9_begun_44 : decode cX9_begun 44 = .ok (.iconst 0, 1) := by decide +kernel
theorem dX9_begun_45 : decode cX9_begun 45 = .ok (.istore 4, 2) := by decide +kernel
theorem dX9_begun_47 : decode cX9_begun 47 = .ok (.iload 4, 2) := by decide +kernel
theorem dX9_begun_49 : decode cX9_begun 49 = .ok (.iconst 3, 1) := by decide +kernel
theorem dX9_begun_50 : decode cX9_begun 50 = .ok (.if_icmp .ge 47, 3) := by decide +kernel
theorem dX9_begun_53 : decode cX9_begun 53 = .ok (.aload_n 0, 1) := by decide +kernel
theorem dX9_begun_54 : decode cX9_begun 54 = .ok (.getfield 7, 3) := by decide +kernel
theorem dX9_begun_57 : decode cX9_begun 57 = .ok (.bipush 9, 2) := by decide +kernel
theorem dX9_begun_59 : decode cX9_begun 59 = .ok (.iload_n 1, 1) := by decide +kernel
theorem dX9_begun_60 : decode cX9_begun 60 = .ok (.iadd, 1) := by decide +kernel
theorem dX9_begun_61 : decode cX9_begun 61 = .ok (.iload 4, 2) := by decide +kernel
theorem dX9_begun_63 : decode cX9_begun 63 = .ok (.iastore, 1) := by decide +kernel
theorem dX9_begun_64 : decode cX9_begun 64 = .ok (.aload_n 0, 1) := by decide +kernel
theorem dX9_begun_65 : decode cX9_begun 65 = .ok (.invokevirtual 229, 3) := by decide +kernel
theorem dX9_begun_68 : decode cX9_begun 68 = .ok (.istore 5, 2) := by decide +kernel
theorem dX9_begun_70 : decode cX9_begun 70 = .ok (.aload_n 0, 1) := by decide +kernel
theorem dX9_begun_71 : decode cX9_begun 71 = .ok (.invokevirtual 232, 3) := by decide +kernel
theorem dX9_begun_74 : decode cX9_begun 74 = .ok (.iload_n 3, 1) := by decide +kernel
theorem dX9_begun_75 : decode cX9_begun 75 = .ok (.iload 5, 2) := by decide +kernel
theorem dX9_begun_77 : decode cX9_begun 77 = .ok (.iload_n 2, 1) := by decide +kernel
theorem dX9_begun_78 : decode cX9_begun 78 = .ok (.if_icmp .ne 10, 3) := by decide +kernel
theorem dX9_begun_81 : decode cX9_begun 81 = .ok (.iconst 1, 1) := by decide +kernel
theorem dX9_begun_82 : decode cX9_begun 82 = .ok (.iload 4, 2) := by decide +kernel
theorem dX9_begun_84 : decode cX9_begun 84 = .ok (.ishl, 1) := by decide +kernel
theorem dX9_begun_85 : decode cX9_begun 85 = .ok (.goto 4, 3) := by decide +kernel
theorem dX9_begun_88 : decode cX9_begun 88 = .ok (.iconst 0, 1) := by decide +kernel
theorem dX9_begun_89 : decode cX9_begun 89 = .ok (.ior, 1) := by decide +kernel
theorem dX9_begun_90 : decode cX9_begun 90 = .ok (.istore_n 3, 1) := by decide +kernel
theorem dX9_begun_91 : decode cX9_begun 91 = .ok (.iinc 4 1, 3) := by decide +kernel
theorem dX9_begun_94 : decode cX9_begun 94 = .ok (.goto (-47), 3) := by decide +kernel
theorem dX9_begun_97 : decode cX9_begun 97 = .ok (.iload_n 3, 1) := by decide +kernel
theorem dX9_begun_98 : decode cX9_begun 98 = .ok (.ireturn, 1) := by decide +kernel
set_option maxRecDepth 20000 in
theorem ggX9_isLot_X9_in : GoodIn wsX9_isLot wsX9_in := goodIn_r _ [5] (by decide +kernel) (by decide +kernel)
set_option maxRecDepth 20000 in
theorem gX9_isLot_X9_in : GoodIn wsX9_isLot (va_wsS RX9 69 yX9_in wsX9_in) := goodIn_app (goodIn_of _ (by decide +kernel)) ggX9_isLot_X9_in
theorem dX9_isLot_0 : decode cX9_isLot 0 = .ok (.iload_n 0, 1) := by decide +kernel
theorem dX9_isLot_1 : decode cX9_isLot 1 = .ok (.i2l, 1) := by decide +kernel
theorem dX9_isLot_2 : decode cX9_isLot 2 = .ok (.lconst 0, 1) := by decide +kernel
theorem dX9_isLot_3 : decode cX9_isLot 3 = .ok (.ldc2_w 235, 3) := by decide +kernel
theorem dX9_isLot_6 : decode cX9_isLot 6 = .ok (.invokestatic 69, 3) := by decide +kernel
theorem dX9_isLot_9 : decode cX9_isLot 9 = .ok (.ifCond .eq 41, 3) := by decide +kernel
theorem dX9_isLot_12 : decode cX9_isLot 12 = .ok (.iload_n 1, 1) := by decide +kernel
theorem dX9_isLot_13 : decode cX9_isLot 13 = .ok (.i2l, 1) := by decide +kernel
theorem dX9_isLot_14 : decode cX9_isLot 14 = .ok (.lconst 0, 1) := by decide +kernel
theorem dX9_isLot_15 : decode cX9_isLot 15 = .ok (.ldc2_w 235, 3) := by decide +kernel
theorem dX9_isLot_18 : decode cX9_isLot 18 = .ok (.invokestatic 69, 3) := by decide +kernel
theorem dX9_isLot_21 : decode cX9_isLot 21 = .ok (.ifCond .eq 29, 3) := by decide +kernel
theorem dX9_isLot_24 : decode cX9_isLot 24 = .ok (.iload_n 2, 1) := by decide +kernel
theorem dX9_isLot_25 : decode cX9_isLot 25 = .ok (.i2l, 1) := by decide +kernel
theorem dX9_isLot_26 : decode cX9_isLot 26 = .ok (.lconst 0, 1) := by decide +kernel
theorem dX9_isLot_27 : decode cX9_isLot 27 = .ok (.ldc2_w 235, 3) := by decide +kernel
theorem dX9_isLot_30 : decode cX9_isLot 30 = .ok (.invokestatic 69, 3) := by decide +kernel
theorem dX9_isLot_33 : decode cX9_isLot 33 = .ok (.ifCond .eq 17, 3) := by decide +kernel
theorem dX9_isLot_36 : decode cX9_isLot 36 = .ok (.iload_n 0, 1) := by decide +kernel
theorem dX9_isLot_37 : decode cX9_isLot 37 = .ok (.iload_n 1, 1) := by decide +kernel
theorem dX9_isLot_38 : decode cX9_isLot 38 = .ok (.iadd, 1) := by decide +kernel
theorem dX9_isLot_39 : decode cX9_isLot 39 = .ok (.iload_n 2, 1) := by decide +kernel
theorem dX9_isLot_40 : decode cX9_isLot 40 = .ok (.iadd, 1) := by decide +kernel
theorem dX9_isLot_41 : decode cX9_isLot 41 = .ok (.bipush 9, 2) := by decide +kernel
theorem dX9_isLot_43 : decode cX9_isLot 43 = .ok (.if_icmp .ne 7, 3) := by decide +kernel
theorem dX9_isLot_46 : decode cX9_isLot 46 = .ok (.iconst 1, 1) := by decide +kernel
theorem dX9_isLot_47 : decode cX9_isLot 47 = .ok (.goto 4, 3) := by decide +kernel
theorem dX9_isLot_50 : decode cX9_isLot 50 = .ok (.iconst 0, 1) := by decide +kernel
theorem dX9_isLot_51 : decode cX9_isLot 51 = .ok (.ireturn, 1) := by decide +kernel
theorem dX9_share_0 : decode cX9_share 0 = .ok (.iload_n 0, 1) := by decide +kernel
theorem dX9_share_1 : decode cX9_share 1 = .ok (.ifCond .ne 7, 3) := by decide +kernel
theorem dX9_share_4 : decode cX9_share 4 = .ok (.iload_n 1, 1) := by decide +kernel
theorem dX9_share_5 : decode cX9_share 5 = .ok (.goto 13, 3) := by decide +kernel
theorem dX9_share_8 : decode cX9_share 8 = .ok (.iload_n 0, 1) := by decide +kernel
theorem dX9_share_9 : decode cX9_share 9 = .ok (.iconst 1, 1) := by decide +kernel
theorem dX9_share_10 : decode cX9_share 10 = .ok (.if_icmp .ne 7, 3) := by decide +kernel
theorem dX9_share_13 : decode cX9_share 13 = .ok (.iload_n 2, 1) := by decide +kernel
theorem dX9_share_14 : decode cX9_share 14 = .ok (.goto 4, 3) := by decide +kernel
theorem dX9_share_17 : decode cX9_share 17 = .ok (.iload_n 3, 1) := by decide +kernel
theorem dX9_share_18 : decode cX9_share 18 = .ok (.ireturn, 1) := by decide +kernel
theorem dX9_common_0 : decode cX9_common 0 = .ok (.iload_n 0, 1) := by decide +kernel
theorem dX9_common_1 : decode cX9_common 1 = .ok (.istore_n 2, 1) := by decide +kernel
theorem dX9_common_2 : decode cX9_common 2 = .ok (.iload_n 1, 1) := by decide +kernel
theorem dX9_common_3 : decode cX9_common 3 = .ok (.istore_n 3, 1) := by decide +kernel
theorem dX9_common_4 : decode cX9_common 4 = .ok (.iload_n 3, 1) := by decide +kernel
theorem dX9_common_5 : decode cX9_common 5 = .ok (.ifCond .eq 16, 3) := by decide +kernel
theorem dX9_common_8 : decode cX9_common 8 = .ok (.iload_n 2, 1) := by decide +kernel
theorem dX9_common_9 : decode cX9_common 9 = .ok (.iload_n 3, 1) := by decide +kernel
theorem dX9_common_10 : decode cX9_common 10 = .ok (.irem, 1) := by decide +kernel
theorem dX9_common_11 : decode cX9_common 11 = .ok (.istore 4, 2) := by decide +kernel
theorem dX9_common_13 : decode cX9_common 13 = .ok (.iload_n 3, 1) := by decide +kernel
theorem dX9_common_14 : decode cX9_common 14 = .ok (.istore_n 2, 1) := by decide +kernel
theorem dX9_common_15 : decode cX9_common 15 = .ok (.iload 4, 2) := by decide +kernel
theorem dX9_common_17 : decode cX9_common 17 = .ok (.istore_n 3, 1) := by decide +kernel
theorem dX9_common_18 : decode cX9_common 18 = .ok (.goto (-14), 3) := by decide +kernel
theorem dX9_common_21 : decode cX9_common 21 = .ok (.iload_n 2, 1) := by decide +kernel
theorem dX9_common_22 : decode cX9_common 22 = .ok (.ireturn, 1) := by decide +kernel
set_option maxRecDepth 20000 in
theorem ggX9_odds_X9_in : GoodIn wsX9_odds wsX9_in := goodIn_r _ [7] (by decide +kernel) (by decide +kernel)
set_option maxRecDepth 20000 in
theorem gX9_odds_X9_in : GoodIn wsX9_odds (va_wsS RX9 69 yX9_in wsX9_in) := goodIn_app (goodIn_of _ (by decide +kernel)) ggX9_odds_X9_in
set_option maxRecDepth 20000 in
theorem ggX9_odds_X9_isLot : GoodIn wsX9_odds wsX9_isLot := goodIn_r _ [10, 11, 4, 5, 6, 7] (by decide +kernel) (by decide +kernel)
set_option maxRecDepth 20000 in
theorem gX9_odds_X9_isLot : GoodIn wsX9_odds (va_wsS RX9 253 yX9_isLot wsX9_isLot) := goodIn_app (goodIn_of _ (by decide +kernel)) ggX9_odds_X9_isLot
set_option maxRecDepth 20000 in
theorem ggX9_odds_X9_share : GoodIn wsX9_odds wsX9_share := goodIn_r _ [14] (by decide +kernel) (by decide +kernel)
set_option maxRecDepth 20000 in
theorem gX9_odds_X9_share : GoodIn wsX9_odds (va_wsS RX9 257 yX9_share wsX9_share) := goodIn_app (goodIn_of _ (by decide +kernel)) ggX9_odds_X9_share
set_option maxRecDepth 20000 in
theorem ggX9_odds_X9_common : GoodIn wsX9_odds wsX9_common := goodIn_r _ [17] (by decide +kernel) (by decide +kernel)
set_option maxRecDepth 20000 in
theorem gX9_odds_X9_common : GoodIn wsX9_odds (va_wsS RX9 261 yX9_common wsX9_common) := goodIn_app (goodIn_of _ (by decide +kernel)) ggX9_odds_X9_common
theorem dX9_odds_0 : decode cX9_odds 0 = .ok (.iload_n 1, 1) := by decide +kernel
theorem dX9_odds_1 : decode cX9_odds 1 = .ok (.i2l, 1) := by decide +kernel
theorem dX9_odds_2 : decode cX9_odds 2 = .ok (.lconst 0, 1) := by decide +kernel
theorem dX9_odds_3 : decode cX9_odds 3 = .ok (.ldc2_w 77, 3) := by decide +kernel
theorem dX9_odds_6 : decode cX9_odds 6 = .ok (.invokestatic 69, 3) := by decide +kernel
theorem dX9_odds_9 : decode cX9_odds 9 = .ok (.ifCond .eq 24, 3) := by decide +kernel
theorem dX9_odds_12 : decode cX9_odds 12 = .ok (.iload_n 2, 1) := by decide +kernel
theorem dX9_odds_13 : decode cX9_odds 13 = .ok (.iload_n 3, 1) := by decide +kernel
theorem dX9_odds_14 : decode cX9_odds 14 = .ok (.iload 4, 2) := by decide +kernel
theorem dX9_odds_16 : decode cX9_odds 16 = .ok (.invokestatic 253, 3) := by decide +kernel
theorem dX9_odds_19 : decode cX9_odds 19 = .ok (.ifCond .eq 14, 3) := by decide +kernel
theorem dX9_odds_22 : decode cX9_odds 22 = .ok (.iload 5, 2) := by decide +kernel
theorem dX9_odds_24 : decode cX9_odds 24 = .ok (.i2l, 1) := by decide +kernel
theorem dX9_odds_25 : decode cX9_odds 25 = .ok (.lconst 0, 1) := by decide +kernel
theorem dX9_odds_26 : decode cX9_odds 26 = .ok (.lconst 1, 1) := by decide +kernel
theorem dX9_odds_27 : decode cX9_odds 27 = .ok (.invokestatic 69, 3) := by decide +kernel
theorem dX9_odds_30 : decode cX9_odds 30 = .ok (.ifCond .ne 6, 3) := by decide +kernel
theorem dX9_odds_33 : decode cX9_odds 33 = .ok (.ldc 79, 2) := by decide +kernel
theorem dX9_odds_35 : decode cX9_odds 35 = .ok (.ireturn, 1) := by decide +kernel
theorem dX9_odds_36 : decode cX9_odds 36 = .ok (.bipush 9, 2) := by decide +kernel
theorem dX9_odds_38 : decode cX9_odds 38 = .ok (.iload_n 1, 1) := by decide +kernel
theorem dX9_odds_39 : decode cX9_odds 39 = .ok (.iload_n 2, 1) := by decide +kernel
theorem dX9_odds_40 : decode cX9_odds 40 = .ok (.iload_n 3, 1) := by decide +kernel
theorem dX9_odds_41 : decode cX9_odds 41 = .ok (.iload 4, 2) := by decide +kernel
theorem dX9_odds_43 : decode cX9_odds 43 = .ok (.invokestatic 257, 3) := by decide +kernel
theorem dX9_odds_46 : decode cX9_odds 46 = .ok (.isub, 1) := by decide +kernel
theorem dX9_odds_47 : decode cX9_odds 47 = .ok (.istore 6, 2) := by decide +kernel
theorem dX9_odds_49 : decode cX9_odds 49 = .ok (.iload 6, 2) := by decide +kernel
theorem dX9_odds_51 : decode cX9_odds 51 = .ok (.ifCond .ne 6, 3) := by decide +kernel
theorem dX9_odds_54 : decode cX9_odds 54 = .ok (.ldc 252, 2) := by decide +kernel
theorem dX9_odds_56 : decode cX9_odds 56 = .ok (.ireturn, 1) := by decide +kernel
theorem dX9_odds_57 : decode cX9_odds 57 = .ok (.iload_n 1, 1) := by decide +kernel
theorem dX9_odds_58 : decode cX9_odds 58 = .ok (.iconst 2, 1) := by decide +kernel
theorem dX9_odds_59 : decode cX9_odds 59 = .ok (.iadd, 1) := by decide +kernel
theorem dX9_odds_60 : decode cX9_odds 60 = .ok (.iconst 3, 1) := by decide +kernel
theorem dX9_odds_61 : decode cX9_odds 61 = .ok (.irem, 1) := by decide +kernel
theorem dX9_odds_62 : decode cX9_odds 62 = .ok (.iload_n 2, 1) := by decide +kernel
theorem dX9_odds_63 : decode cX9_odds 63 = .ok (.iload_n 3, 1) := by decide +kernel
theorem dX9_odds_64 : decode cX9_odds 64 = .ok (.iload 4, 2) := by decide +kernel
theorem dX9_odds_66 : decode cX9_odds 66 = .ok (.invokestatic 257, 3) := by decide +kernel
theorem dX9_odds_69 : decode cX9_odds 69 = .ok (.istore 7, 2) := by decide +kernel
theorem dX9_odds_71 : decode cX9_odds 71 = .ok (.iload 7, 2) := by decide +kernel
theorem dX9_odds_73 : decode cX9_odds 73 = .ok (.iload 6, 2) := by decide +kernel
theorem dX9_odds_75 : decode cX9_odds 75 = .ok (.invokestatic 261, 3) := by decide +kernel
theorem dX9_odds_78 : decode cX9_odds 78 = .ok (.istore 8, 2) := by decide +kernel
theorem dX9_odds_80 : decode cX9_odds 80 = .ok (.iload 5, 2) := by decide +kernel
theorem dX9_odds_82 : decode cX9_odds 82 = .ok (.ifCond .ne 11, 3) := by decide +kernel
theorem dX9_odds_85 : decode cX9_odds 85 = .ok (.iload 7, 2) := by decide +kernel
theorem dX9_odds_87 : decode cX9_odds 87 = .ok (.iload 8, 2) := by decide +kernel
theorem dX9_odds_89 : decode cX9_odds 89 = .ok (.idiv, 1) := by decide +kernel
theorem dX9_odds_90 : decode cX9_odds 90 = .ok (.goto 8, 3) := by decide +kernel
theorem dX9_odds_93 : decode cX9_odds 93 = .ok (.iload 6, 2) := by decide +kernel
theorem dX9_odds_95 : decode cX9_odds 95 = .ok (.iload 8, 2) := by decide +kernel
theorem dX9_odds_97 : decode cX9_odds 97 = .ok (.idiv, 1) := by decide +kernel
theorem dX9_odds_98 : decode cX9_odds 98 = .ok (.ireturn, 1) := by decide +kernel
set_option maxRecDepth 20000 in
theorem ggX9_gain_X9_isLot : GoodIn wsX9_gain wsX9_isLot := goodIn_r _ [6, 7, 8, 9, 5, 10] (by decide +kernel) (by decide +kernel)
set_option maxRecDepth 20000 in
theorem gX9_gain_X9_isLot : GoodIn wsX9_gain (va_wsS RX9 253 yX9_isLot wsX9_isLot) := goodIn_app (goodIn_of _ (by decide +kernel)) ggX9_gain_X9_isLot
set_option maxRecDepth 20000 in
theorem ggX9_gain_X9_share : GoodIn wsX9_gain wsX9_share := goodIn_r _ [13] (by decide +kernel) (by decide +kernel)
set_option maxRecDepth 20000 in
theorem gX9_gain_X9_share : GoodIn wsX9_gain (va_wsS RX9 257 yX9_share wsX9_share) := goodIn_app (goodIn_of _ (by decide +kernel)) ggX9_gain_X9_share
theorem dX9_gain_0 : decode cX9_gain 0 = .ok (.iload_n 1, 1) := by decide +kernel
theorem dX9_gain_1 : decode cX9_gain 1 = .ok (.iload_n 2, 1) := by decide +kernel
theorem dX9_gain_2 : decode cX9_gain 2 = .ok (.iload_n 3, 1) := by decide +kernel
theorem dX9_gain_3 : decode cX9_gain 3 = .ok (.invokestatic 253, 3) := by decide +kernel
theorem dX9_gain_6 : decode cX9_gain 6 = .ok (.ifCond .ne 6, 3) := by decide +kernel
theorem dX9_gain_9 : decode cX9_gain 9 = .ok (.ldc 79, 2) := by decide +kernel
theorem dX9_gain_11 : decode cX9_gain 11 = .ok (.ireturn, 1) := by decide +kernel
theorem dX9_gain_12 : decode cX9_gain 12 = .ok (.ldc 252, 2) := by decide +kernel
theorem dX9_gain_14 : decode cX9_gain 14 = .ok (.istore 4, 2) := by decide +kernel
theorem dX9_gain_16 : decode cX9_gain 16 = .ok (.iconst 0, 1) := by decide +kernel
theorem dX9_gain_17 : decode cX9_gain 17 = .ok (.istore 5, 2) := by decide +kernel
theorem dX9_gain_19 : decode cX9_gain 19 = .ok (.iconst 1, 1) := by decide +kernel
theorem dX9_gain_20 : decode cX9_gain 20 = .ok (.istore 6, 2) := by decide +kernel
theorem dX9_gain_22 : decode cX9_gain 22 = .ok (.iconst 0, 1) := by decide +kernel
theorem dX9_gain_23 : decode cX9_gain 23 = .ok (.istore 7, 2) := by decide +kernel
theorem dX9_gain_25 : decode cX9_gain 25 = .ok (.iload 7, 2) := by decide +kernel
theorem dX9_gain_27 : decode cX9_gain 27 = .ok (.iconst 3, 1) := by decide +kernel
theorem dX9_gain_28 : decode cX9_gain 28 = .ok (.if_icmp .ge 73, 3) := by decide +kernel
theorem dX9_gain_31 : decode cX9_gain 31 = .ok (.bipush 9, 2) := by decide +kernel
theorem dX9_gain_33 : decode cX9_gain 33 = .ok (.iload 7, 2) := by decide +kernel
theorem dX9_gain_35 : decode cX9_gain 35 = .ok (.iload_n 1, 1) := by decide +kernel
theorem dX9_gain_36 : decode cX9_gain 36 = .ok (.iload_n 2, 1) := by decide +kernel
theorem dX9_gain_37 : decode cX9_gain 37 = .ok (.iload_n 3, 1) := by decide +kernel
theorem dX9_gain_38 : decode cX9_gain 38 = .ok (.invokestatic 257, 3) := by decide +kernel
theorem dX9_gain_41 : decode cX9_gain 41 = .ok (.isub, 1) := by decide +kernel
theorem dX9_gain_42 : decode cX9_gain 42 = .ok (.istore 8, 2) := by decide +kernel
theorem dX9_gain_44 : decode cX9_gain 44 = .ok (.iload 7, 2) := by decide +kernel
theorem dX9_gain_46 : decode cX9_gain 46 = .ok (.iconst 2, 1) := by decide +kernel
theorem dX9_gain_47 : decode cX9_gain 47 = .ok (.iadd, 1) := by decide +kernel
theorem dX9_gain_48 : decode cX9_gain 48 = .ok (.iconst 3, 1) := by decide +kernel
theorem dX9_gain_49 : decode cX9_gain 49 = .ok (.irem, 1) := by decide +kernel
theorem dX9_gain_50 : decode cX9_gain 50 = .ok (.iload_n 1, 1) := by decide +kernel
theorem dX9_gain_51 : decode cX9_gain 51 = .ok (.iload_n 2, 1) := by decide +kernel
theorem dX9_gain_52 : decode cX9_gain 52 = .ok (.iload_n 3, 1) := by decide +kernel
theorem dX9_gain_53 : decode cX9_gain 53 = .ok (.invokestatic 257, 3) := by decide +kernel
theorem dX9_gain_56 : decode cX9_gain 56 = .ok (.istore 9, 2) := by decide +kernel
theorem dX9_gain_58 : decode cX9_gain 58 = .ok (.iload 8, 2) := by decide +kernel
theorem dX9_gain_60 : decode cX9_gain 60 = .ok (.ifCond .le 35, 3) := by decide +kernel
theorem dX9_gain_63 : decode cX9_gain 63 = .ok (.iload 4, 2) := by decide +kernel
theorem dX9_gain_65 : decode cX9_gain 65 = .ok (.ldc 252, 2) := by decide +kernel
theorem dX9_gain_67 : decode cX9_gain 67 = .ok (.if_icmp .eq 16, 3) := by decide +kernel
theorem dX9_gain_70 : decode cX9_gain 70 = .ok (.iload 9, 2) := by decide +kernel
theorem dX9_gain_72 : decode cX9_gain 72 = .ok (.iload 6, 2) := by decide +kernel
theorem dX9_gain_74 : decode cX9_gain 74 = .ok (.imul, 1) := by decide +kernel
theorem dX9_gain_75 : decode cX9_gain 75 = .ok (.iload 5, 2) := by decide +kernel
theorem dX9_gain_77 : decode cX9_gain 77 = .ok (.iload 8, 2) := by decide +kernel
theorem dX9_gain_79 : decode cX9_gain 79 = .ok (.imul, 1) := by decide +kernel
theorem dX9_gain_80 : decode cX9_gain 80 = .ok (.if_icmp .le 15, 3) := by decide +kernel
theorem dX9_gain_83 : decode cX9_gain 83 = .ok (.iload 7, 2) := by decide +kernel
theorem dX9_gain_85 : decode cX9_gain 85 = .ok (.istore 4, 2) := by decide +kernel
theorem dX9_gain_87 : decode cX9_gain 87 = .ok (.iload 9, 2) := by decide +kernel
theorem dX9_gain_89 : decode cX9_gain 89 = .ok (.istore 5, 2) := by decide +kernel
theorem dX9_gain_91 : decode cX9_gain 91 = .ok (.iload 8, 2) := by decide +kernel
theorem dX9_gain_93 : decode cX9_gain 93 = .ok (.istore 6, 2) := by decide +kernel
theorem dX9_gain_95 : decode cX9_gain 95 = .ok (.iinc 7 1, 3) := by decide +kernel
theorem dX9_gain_98 : decode cX9_gain 98 = .ok (.goto (-73), 3) := by decide +kernel
theorem dX9_gain_101 : decode cX9_gain 101 = .ok (.iload 4, 2) := by decide +kernel
theorem dX9_gain_103 : decode cX9_gain 103 = .ok (.ireturn, 1) := by decide +kernel
set_option maxRecDepth 20000 in
theorem ggX9_image_X9_in : GoodIn wsX9_image wsX9_in := goodIn_r _ [9] (by decide +kernel) (by decide +kernel)
set_option maxRecDepth 20000 in
theorem gX9_image_X9_in : GoodIn wsX9_image (va_wsS RX9 69 yX9_in wsX9_in) := goodIn_app (goodIn_of _ (by decide +kernel)) ggX9_image_X9_in
set_option maxRecDepth 20000 in
theorem ggX9_image_X9_players : GoodIn wsX9_image wsX9_players := goodIn_r _ [13, 4, 14, 15, 16, 17, 18, 19, 20, 21, 22, 23, 24, 25, 26, 27, 28, 29, 30, 31, 32, 33, 34, 35, 36, 37, 38, 39, 40, 41, 42, 43, 44] (by decide +kernel) (by decide +kernel)
set_option maxRecDepth 20000 in
theorem gX9_image_X9_players : GoodIn wsX9_image (wsV RX9 174 RX9 yX9_players wsX9_players) := goodIn_app (goodIn_of _ (by decide +kernel)) ggX9_image_X9_players
theorem dX9_image_0 : decode cX9_image 0 = .ok (.iload_n 1, 1) := by decide +kernel
theorem dX9_image_1 : decode cX9_image 1 = .ok (.i2l, 1) := by decide +kernel
theorem dX9_image_2 : decode cX9_image 2 = .ok (.lconst 0, 1) := by decide +kernel
theorem dX9_image_3 : decode cX9_image 3 = .ok (.lconst 1, 1) := by decide +kernel
theorem dX9_image_4 : decode cX9_image 4 = .ok (.invokestatic 69, 3) := by decide +kernel
theorem dX9_image_7 : decode cX9_image 7 = .ok (.ifCond .ne 6, 3) := by decide +kernel
theorem dX9_image_10 : decode cX9_image 10 = .ok (.ldc 79, 2) := by decide +kernel
theorem dX9_image_12 : decode cX9_image 12 = .ok (.ireturn, 1) := by decide +kernel
theorem dX9_image_13 : decode cX9_image 13 = .ok (.aload_n 0, 1) := by decide +kernel
theorem dX9_image_14 : decode cX9_image 14 = .ok (.invokevirtual 174, 3) := by decide +kernel
theorem dX9_image_17 : decode cX9_image 17 = .ok (.ifCond .ne 6, 3) := by decide +kernel
theorem dX9_image_20 : decode cX9_image 20 = .ok (.ldc 213, 2) := by decide +kernel
theorem dX9_image_22 : decode cX9_image 22 = .ok (.ireturn, 1) := by decide +kernel
theorem dX9_image_23 : decode cX9_image 23 = .ok (.iconst 0, 1) := by decide +kernel
theorem dX9_image_24 : decode cX9_image 24 = .ok (.istore_n 2, 1) := by decide +kernel
theorem dX9_image_25 : decode cX9_image 25 = .ok (.iload_n 2, 1) := by decide +kernel
theorem dX9_image_26 : decode cX9_image 26 = .ok (.bipush 27, 2) := by decide +kernel
theorem dX9_image_28 : decode cX9_image 28 = .ok (.if_icmp .ge 26, 3) := by decide +kernel
theorem dX9_image_31 : decode cX9_image 31 = .ok (.aload_n 0, 1) := by decide +kernel
theorem dX9_image_32 : decode cX9_image 32 = .ok (.getfield 13, 3) := by decide +kernel
theorem dX9_image_35 : decode cX9_image 35 = .ok (.bipush 27, 2) := by decide +kernel
theorem dX9_image_37 : decode cX9_image 37 = .ok (.iload_n 1, 1) := by decide +kernel
theorem dX9_image_38 : decode cX9_image 38 = .ok (.imul, 1) := by decide +kernel
theorem dX9_image_39 : decode cX9_image 39 = .ok (.iload_n 2, 1) := by decide +kernel
theorem dX9_image_40 : decode cX9_image 40 = .ok (.iadd, 1) := by decide +kernel
theorem dX9_image_41 : decode cX9_image 41 = .ok (.aload_n 0, 1) := by decide +kernel
theorem dX9_image_42 : decode cX9_image 42 = .ok (.getfield 7, 3) := by decide +kernel
theorem dX9_image_45 : decode cX9_image 45 = .ok (.iload_n 2, 1) := by decide +kernel
theorem dX9_image_46 : decode cX9_image 46 = .ok (.iaload, 1) := by decide +kernel
theorem dX9_image_47 : decode cX9_image 47 = .ok (.iastore, 1) := by decide +kernel
theorem dX9_image_48 : decode cX9_image 48 = .ok (.iinc 2 1, 3) := by decide +kernel
theorem dX9_image_51 : decode cX9_image 51 = .ok (.goto (-26), 3) := by decide +kernel
theorem dX9_image_54 : decode cX9_image 54 = .ok (.aload_n 0, 1) := by decide +kernel
theorem dX9_image_55 : decode cX9_image 55 = .ok (.getfield 16, 3) := by decide +kernel
theorem dX9_image_58 : decode cX9_image 58 = .ok (.iload_n 1, 1) := by decide +kernel
theorem dX9_image_59 : decode cX9_image 59 = .ok (.iconst 1, 1) := by decide +kernel
theorem dX9_image_60 : decode cX9_image 60 = .ok (.bastore, 1) := by decide +kernel
theorem dX9_image_61 : decode cX9_image 61 = .ok (.iconst 1, 1) := by decide +kernel
theorem dX9_image_62 : decode cX9_image 62 = .ok (.ireturn, 1) := by decide +kernel
set_option maxRecDepth 20000 in
theorem ggX9_restore_X9_in : GoodIn wsX9_restore wsX9_in := goodIn_r _ [10] (by decide +kernel) (by decide +kernel)
set_option maxRecDepth 20000 in
theorem gX9_restore_X9_in : GoodIn wsX9_restore (va_wsS RX9 69 yX9_in wsX9_in) := goodIn_app (goodIn_of _ (by decide +kernel)) ggX9_restore_X9_in
theorem dX9_restore_0 : decode cX9_restore 0 = .ok (.iload_n 1, 1) := by decide +kernel
theorem dX9_restore_1 : decode cX9_restore 1 = .ok (.i2l, 1) := by decide +kernel
theorem dX9_restore_2 : decode cX9_restore 2 = .ok (.lconst 0, 1) := by decide +kernel
theorem dX9_restore_3 : decode cX9_restore 3 = .ok (.lconst 1, 1) := by decide +kernel
theorem dX9_restore_4 : decode cX9_restore 4 = .ok (.invokestatic 69, 3) := by decide +kernel
theorem dX9_restore_7 : decode cX9_restore 7 = .ok (.ifCond .ne 6, 3) := by decide +kernel
theorem dX9_restore_10 : decode cX9_restore 10 = .ok (.ldc 79, 2) := by decide +kernel
theorem dX9_restore_12 : decode cX9_restore 12 = .ok (.ireturn, 1) := by decide +kernel
theorem dX9_restore_13 : decode cX9_restore 13 = .ok (.aload_n 0, 1) := by decide +kernel
theorem dX9_restore_14 : decode cX9_restore 14 = .ok (.getfield 16, 3) := by decide +kernel
theorem dX9_restore_17 : decode cX9_restore 17 = .ok (.iload_n 1, 1) := by decide +kernel
theorem dX9_restore_18 : decode cX9_restore 18 = .ok (.baload, 1) := by decide +kernel
theorem dX9_restore_19 : decode cX9_restore 19 = .ok (.ifCond .ne 6, 3) := by decide +kernel
theorem dX9_restore_22 : decode cX9_restore 22 = .ok (.ldc 213, 2) := by decide +kernel
theorem dX9_restore_24 : decode cX9_restore 24 = .ok (.ireturn, 1) := by decide +kernel
theorem dX9_restore_25 : decode cX9_restore 25 = .ok (.iconst 0, 1) := by decide +kernel
theorem dX9_restore_26 : decode cX9_restore 26 = .ok (.istore_n 2, 1) := by decide +kernel
theorem dX9_restore_27 : decode cX9_restore 27 = .ok (.iload_n 2, 1) := by decide +kernel
theorem dX9_restore_28 : decode cX9_restore 28 = .ok (.bipush 27, 2) := by decide +kernel
theorem dX9_restore_30 : decode cX9_restore 30 = .ok (.if_icmp .ge 26, 3) := by decide +kernel
theorem dX9_restore_33 : decode cX9_restore 33 = .ok (.aload_n 0, 1) := by decide +kernel
theorem dX9_restore_34 : decode cX9_restore 34 = .ok (.getfield 7, 3) := by decide +kernel
theorem dX9_restore_37 : decode cX9_restore 37 = .ok (.iload_n 2, 1) := by decide +kernel
theorem dX9_restore_38 : decode cX9_restore 38 = .ok (.aload_n 0, 1) := by decide +kernel
theorem dX9_restore_39 : decode cX9_restore 39 = .ok (.getfield 13, 3) := by decide +kernel
theorem dX9_restore_42 : decode cX9_restore 42 = .ok (.bipush 27, 2) := by decide +kernel
theorem dX9_restore_44 : decode cX9_restore 44 = .ok (.iload_n 1, 1) := by decide +kernel
theorem dX9_restore_45 : decode cX9_restore 45 = .ok (.imul, 1) := by decide +kernel
theorem dX9_restore_46 : decode cX9_restore 46 = .ok (.iload_n 2, 1) := by decide +kernel
theorem dX9_restore_47 : decode cX9_restore 47 = .ok (.iadd, 1) := by decide +kernel
theorem dX9_restore_48 : decode cX9_restore 48 = .ok (.iaload, 1) := by decide +kernel
theorem dX9_restore_49 : decode cX9_restore 49 = .ok (.iastore, 1) := by decide +kernel
theorem dX9_restore_50 : decode cX9_restore 50 = .ok (.iinc 2 1, 3) := by decide +kernel
theorem dX9_restore_53 : decode cX9_restore 53 = .ok (.goto (-26), 3) := by decide +kernel
theorem dX9_restore_56 : decode cX9_restore 56 = .ok (.aload_n 0, 1) := by decide +kernel
theorem dX9_restore_57 : decode cX9_restore 57 = .ok (.iconst 0, 1) := by decide +kernel
theorem dX9_restore_58 : decode cX9_restore 58 = .ok (.putfield 171, 3) := by decide +kernel
theorem dX9_restore_61 : decode cX9_restore 61 = .ok (.iconst 1, 1) := by decide +kernel
theorem dX9_restore_62 : decode cX9_restore 62 = .ok (.ireturn, 1) := by decide +kernel
set_option maxRecDepth 20000 in
theorem ggX9_kind_X9_isPlayer : GoodIn wsX9_kind wsX9_isPlayer := goodIn_r _ [7, 8, 9, 10, 6, 11, 1, 12, 13, 14, 15, 16, 17, 18, 19, 20, 21, 22, 23, 24, 25, 26, 27, 28, 29, 30, 31, 32, 33, 34, 35, 36, 37, 38, 39, 40, 41, 42, 43, 44, 45] (by decide +kernel) (by decide +kernel)
set_option maxRecDepth 20000 in
theorem gX9_kind_X9_isPlayer : GoodIn wsX9_kind (wsV RX9 210 RX9 yX9_isPlayer wsX9_isPlayer) := goodIn_app (goodIn_of _ (by decide +kernel)) ggX9_kind_X9_isPlayer
theorem dX9_kind_0 : decode cX9_kind 0 = .ok (.aload_n 0, 1) := by decide +kernel
theorem dX9_kind_1 : decode cX9_kind 1 = .ok (.iload_n 1, 1) := by decide +kernel
theorem dX9_kind_2 : decode cX9_kind 2 = .ok (.invokevirtual 210, 3) := by decide +kernel
theorem dX9_kind_5 : decode cX9_kind 5 = .ok (.ifCond .eq 14, 3) := by decide +kernel
theorem dX9_kind_8 : decode cX9_kind 8 = .ok (.aload_n 0, 1) := by decide +kernel
theorem dX9_kind_9 : decode cX9_kind 9 = .ok (.getfield 7, 3) := by decide +kernel
theorem dX9_kind_12 : decode cX9_kind 12 = .ok (.iconst 1, 1) := by decide +kernel
theorem dX9_kind_13 : decode cX9_kind 13 = .ok (.iload_n 1, 1) := by decide +kernel
theorem dX9_kind_14 : decode cX9_kind 14 = .ok (.iadd, 1) := by decide +kernel
theorem dX9_kind_15 : decode cX9_kind 15 = .ok (.iaload, 1) := by decide +kernel
theorem dX9_kind_16 : decode cX9_kind 16 = .ok (.goto 5, 3) := by decide +kernel
theorem dX9_kind_19 : decode cX9_kind 19 = .ok (.ldc 79, 2) := by decide +kernel
theorem dX9_kind_21 : decode cX9_kind 21 = .ok (.ireturn, 1) := by decide +kernel
theorem dX9_above_0 : decode cX9_above 0 = .ok (.iload_n 0, 1) := by decide +kernel
theorem dX9_above_1 : decode cX9_above 1 = .ok (.iconst 5, 1) := by decide +kernel
theorem dX9_above_2 : decode cX9_above 2 = .ok (.if_icmp .ne 7, 3) := by decide +kernel
theorem dX9_above_5 : decode cX9_above 5 = .ok (.iconst 4, 1) := by decide +kernel
theorem dX9_above_6 : decode cX9_above 6 = .ok (.goto 18, 3) := by decide +kernel
theorem dX9_above_9 : decode cX9_above 9 = .ok (.iload_n 0, 1) := by decide +kernel
theorem dX9_above_10 : decode cX9_above 10 = .ok (.iconst 2, 1) := by decide +kernel
theorem dX9_above_11 : decode cX9_above 11 = .ok (.if_icmp .eq 8, 3) := by decide +kernel
theorem dX9_above_14 : decode cX9_above 14 = .ok (.iload_n 0, 1) := by decide +kernel
theorem dX9_above_15 : decode cX9_above 15 = .ok (.iconst 3, 1) := by decide +kernel
theorem dX9_above_16 : decode cX9_above 16 = .ok (.if_icmp .ne 7, 3) := by decide +kernel
theorem dX9_above_19 : decode cX9_above 19 = .ok (.iconst 1, 1) := by decide +kernel
theorem dX9_above_20 : decode cX9_above 20 = .ok (.goto 4, 3) := by decide +kernel
theorem dX9_above_23 : decode cX9_above 23 = .ok (.iconst 0, 1) := by decide +kernel
theorem dX9_above_24 : decode cX9_above 24 = .ok (.ireturn, 1) := by decide +kernel
set_option maxRecDepth 20000 in
theorem ggX9_as_X9_isPlayer : GoodIn wsX9_as wsX9_isPlayer := goodIn_r _ [8, 9, 10, 11, 7, 12, 3, 13, 14, 15, 29, 30, 31, 32, 33, 34, 35, 36, 37, 38, 39, 40, 41, 42, 43, 44, 45, 46, 47, 48, 49, 50, 51, 52, 53, 54, 55, 56, 57, 58, 59] (by decide +kernel) (by decide +kernel)
set_option maxRecDepth 20000 in
theorem gX9_as_X9_isPlayer : GoodIn wsX9_as (wsV RX9 210 RX9 yX9_isPlayer wsX9_isPlayer) := goodIn_app (goodIn_of _ (by decide +kernel)) ggX9_as_X9_isPlayer
set_option maxRecDepth 20000 in
theorem ggX9_as_X9_in : GoodIn wsX9_as wsX9_in := goodIn_r _ [15] (by decide +kernel) (by decide +kernel)
set_option maxRecDepth 20000 in
theorem gX9_as_X9_in : GoodIn wsX9_as (va_wsS RX9 69 yX9_in wsX9_in) := goodIn_app (goodIn_of _ (by decide +kernel)) ggX9_as_X9_in
set_option maxRecDepth 20000 in
theorem ggX9_as_X9_above : GoodIn wsX9_as wsX9_above := goodIn_r _ [18] (by decide +kernel) (by decide +kernel)
set_option maxRecDepth 20000 in
theorem gX9_as_X9_above : GoodIn wsX9_as (va_wsS RX9 266 yX9_above wsX9_above) := goodIn_app (goodIn_of _ (by decide +kernel)) ggX9_as_X9_above
set_option maxRecDepth 20000 in
theorem ggX9_as_X9_well : GoodIn wsX9_as wsX9_well := goodIn_r _ [22, 23, 29, 30, 31, 32, 33, 34, 35, 36, 37, 38, 39, 40, 41, 42, 43, 44, 45, 46, 47, 48, 49, 50, 51, 52, 53, 54, 55, 56, 57, 58, 59] (by decide +kernel) (by decide +kernel)
set_option maxRecDepth 20000 in
theorem gX9_as_X9_well : GoodIn wsX9_as (wsV RX9 84 RX9 yX9_well wsX9_well) := goodIn_app (goodIn_of _ (by decide +kernel)) ggX9_as_X9_well
set_option maxRecDepth 20000 in
theorem ggX9_as_X9_found : GoodIn wsX9_as wsX9_found := goodIn_r _ [27, 23, 28, 29, 30, 31, 32, 33, 34, 35, 36, 37, 38, 39, 40, 41, 42, 43, 44, 45, 46, 47, 48, 49, 50, 51, 52, 53, 54, 55, 56, 57, 58, 59] (by decide +kernel) (by decide +kernel)
set_option maxRecDepth 20000 in
theorem gX9_as_X9_found : GoodIn wsX9_as (wsV RX9 80 RX9 yX9_found wsX9_found) := goodIn_app (goodIn_of _ (by decide +kernel)) ggX9_as_X9_found
theorem dX9_as_0 : decode cX9_as 0 = .ok (.aload_n 0, 1) := by decide +kernel
theorem dX9_as_1 : decode cX9_as 1 = .ok (.iload_n 1, 1) := by decide +kernel
theorem dX9_as_2 : decode cX9_as 2 = .ok (.invokevirtual 210, 3) := by decide +kernel
theorem dX9_as_5 : decode cX9_as 5 = .ok (.ifCond .eq 15, 3) := by decide +kernel
theorem dX9_as_8 : decode cX9_as 8 = .ok (.iload_n 2, 1) := by decide +kernel
theorem dX9_as_9 : decode cX9_as 9 = .ok (.i2l, 1) := by decide +kernel
theorem dX9_as_10 : decode cX9_as 10 = .ok (.lconst 0, 1) := by decide +kernel
theorem dX9_as_11 : decode cX9_as 11 = .ok (.ldc2_w 264, 3) := by decide +kernel
theorem dX9_as_14 : decode cX9_as 14 = .ok (.invokestatic 69, 3) := by decide +kernel
theorem dX9_as_17 : decode cX9_as 17 = .ok (.ifCond .ne 6, 3) := by decide +kernel
theorem dX9_as_20 : decode cX9_as 20 = .ok (.ldc 79, 2) := by decide +kernel
theorem dX9_as_22 : decode cX9_as 22 = .ok (.ireturn, 1) := by decide +kernel
theorem dX9_as_23 : decode cX9_as 23 = .ok (.aload_n 0, 1) := by decide +kernel
theorem dX9_as_24 : decode cX9_as 24 = .ok (.getfield 7, 3) := by decide +kernel
theorem dX9_as_27 : decode cX9_as 27 = .ok (.iconst 1, 1) := by decide +kernel
theorem dX9_as_28 : decode cX9_as 28 = .ok (.iload_n 1, 1) := by decide +kernel
theorem dX9_as_29 : decode cX9_as 29 = .ok (.iadd, 1) := by decide +kernel
theorem dX9_as_30 : decode cX9_as 30 = .ok (.iaload, 1) := by decide +kernel
theorem dX9_as_31 : decode cX9_as 31 = .ok (.istore_n 3, 1) := by decide +kernel
theorem dX9_as_32 : decode cX9_as 32 = .ok (.iload_n 3, 1) := by decide +kernel
theorem dX9_as_33 : decode cX9_as 33 = .ok (.iload_n 2, 1) := by decide +kernel
theorem dX9_as_34 : decode cX9_as 34 = .ok (.if_icmp .eq 15, 3) := by decide +kernel
theorem dX9_as_37 : decode cX9_as 37 = .ok (.iload_n 3, 1) := by decide +kernel
theorem dX9_as_38 : decode cX9_as 38 = .ok (.ifCond .eq 11, 3) := by decide +kernel
theorem dX9_as_41 : decode cX9_as 41 = .ok (.iload_n 3, 1) := by decide +kernel
theorem dX9_as_42 : decode cX9_as 42 = .ok (.invokestatic 266, 3) := by decide +kernel
theorem dX9_as_45 : decode cX9_as 45 = .ok (.istore_n 3, 1) := by decide +kernel
theorem dX9_as_46 : decode cX9_as 46 = .ok (.goto (-14), 3) := by decide +kernel
theorem dX9_as_49 : decode cX9_as 49 = .ok (.iload_n 3, 1) := by decide +kernel
theorem dX9_as_50 : decode cX9_as 50 = .ok (.iload_n 2, 1) := by decide +kernel
theorem dX9_as_51 : decode cX9_as 51 = .ok (.if_icmp .ne 11, 3) := by decide +kernel
theorem dX9_as_54 : decode cX9_as 54 = .ok (.aload_n 0, 1) := by decide +kernel
theorem dX9_as_55 : decode cX9_as 55 = .ok (.iload_n 1, 1) := by decide +kernel
theorem dX9_as_56 : decode cX9_as 56 = .ok (.invokevirtual 84, 3) := by decide +kernel
theorem dX9_as_59 : decode cX9_as 59 = .ok (.goto 8, 3) := by decide +kernel
theorem dX9_as_62 : decode cX9_as 62 = .ok (.aload_n 0, 1) := by decide +kernel
theorem dX9_as_63 : decode cX9_as 63 = .ok (.iconst 3, 1) := by decide +kernel
theorem dX9_as_64 : decode cX9_as 64 = .ok (.invokevirtual 80, 3) := by decide +kernel
theorem dX9_as_67 : decode cX9_as 67 = .ok (.ireturn, 1) := by decide +kernel
theorem dX9_note_0 : decode cX9_note 0 = .ok (.aload_n 0, 1) := by decide +kernel
theorem dX9_note_1 : decode cX9_note 1 = .ok (.getfield 269, 3) := by decide +kernel
theorem dX9_note_4 : decode cX9_note 4 = .ok (.bipush 16, 2) := by decide +kernel
theorem dX9_note_6 : decode cX9_note 6 = .ok (.if_icmp .ge 23, 3) := by decide +kernel
theorem dX9_note_9 : decode cX9_note 9 = .ok (.aload_n 0, 1) := by decide +kernel
theorem dX9_note_10 : decode cX9_note 10 = .ok (.getfield 59, 3) := by decide +kernel
theorem dX9_note_13 : decode cX9_note 13 = .ok (.aload_n 0, 1) := by decide +kernel
theorem dX9_note_14 : decode cX9_note 14 = .ok (.getfield 269, 3) := by decide +kernel
theorem dX9_note_17 : decode cX9_note 17 = .ok (.iload_n 1, 1) := by decide +kernel
theorem dX9_note_18 : decode cX9_note 18 = .ok (.iastore, 1) := by decide +kernel
theorem dX9_note_19 : decode cX9_note 19 = .ok (.aload_n 0, 1) := by decide +kernel
theorem dX9_note_20 : decode cX9_note 20 = .ok (.dup, 1) := by decide +kernel
theorem dX9_note_21 : decode cX9_note 21 = .ok (.getfield 269, 3) := by decide +kernel
theorem dX9_note_24 : decode cX9_note 24 = .ok (.iconst 1, 1) := by decide +kernel
theorem dX9_note_25 : decode cX9_note 25 = .ok (.iadd, 1) := by decide +kernel
theorem dX9_note_26 : decode cX9_note 26 = .ok (.putfield 269, 3) := by decide +kernel
theorem dX9_note_29 : decode cX9_note 29 = .ok (.return_, 1) := by decide +kernel
set_option maxRecDepth 20000 in
theorem ggX9_plainSize_X9_note : GoodIn wsX9_plainSize wsX9_note := goodIn_r _ [6, 7, 8, 17, 18, 19, 20, 21, 22, 23, 24, 25, 26, 27, 28, 29, 30, 31, 32, 33, 34, 35, 36, 37, 38, 39, 40, 41, 42, 43, 44, 45, 46, 47] (by decide +kernel) (by decide +kernel)
set_option maxRecDepth 20000 in
theorem gX9_plainSize_X9_note : GoodIn wsX9_plainSize (wsV RX9 272 RX9 yX9_note wsX9_note) := goodIn_app (goodIn_of _ (by decide +kernel)) ggX9_plainSize_X9_note
set_option maxRecDepth 20000 in
theorem ggX9_plainSize_X9_sizeOf : GoodIn wsX9_plainSize wsX9_sizeOf := goodIn_r _ [12, 1, 13, 14, 15, 5, 16, 17, 18, 19, 20, 21, 22, 23, 24, 25, 26, 27, 28, 29, 30, 31, 32, 33, 34, 35, 36, 37, 38, 39, 40, 41, 42, 43, 44, 45, 46, 47] (by decide +kernel) (by decide +kernel)
set_option maxRecDepth 20000 in
theorem gX9_plainSize_X9_sizeOf : GoodIn wsX9_plainSize (wsV RX9 196 RX9 yX9_sizeOf wsX9_sizeOf) := goodIn_app (goodIn_of _ (by decide +kernel)) ggX9_plainSize_X9_sizeOf
theorem dX9_plainSize_0 : decode cX9_plainSize 0 = .ok (.aload_n 0, 1) := by decide +kernel
theorem dX9_plainSize_1 : decode cX9_plainSize 1 = .ok (.bipush 10, 2) := by decide +kernel
theorem dX9_plainSize_3 : decode cX9_plainSize 3 = .ok (.invokevirtual 272, 3) := by decide +kernel
theorem dX9_plainSize_6 : decode cX9_plainSize 6 = .ok (.aload_n 0, 1) := by decide +kernel
theorem dX9_plainSize_7 : decode cX9_plainSize 7 = .ok (.aload_n 0, 1) := by decide +kernel
theorem dX9_plainSize_8 : decode cX9_plainSize 8 = .ok (.getfield 7, 3) := by decide +kernel
theorem dX9_plainSize_11 : decode cX9_plainSize 11 = .ok (.bipush 17, 2) := by decide +kernel
theorem dX9_plainSize_13 : decode cX9_plainSize 13 = .ok (.iload_n 1, 1) := by decide +kernel
theorem dX9_plainSize_14 : decode cX9_plainSize 14 = .ok (.iadd, 1) := by decide +kernel
theorem dX9_plainSize_15 : decode cX9_plainSize 15 = .ok (.iaload, 1) := by decide +kernel
theorem dX9_plainSize_16 : decode cX9_plainSize 16 = .ok (.invokevirtual 196, 3) := by decide +kernel
theorem dX9_plainSize_19 : decode cX9_plainSize 19 = .ok (.ireturn, 1) := by decide +kernel
set_option maxRecDepth 20000 in
theorem ggX9_boySize_X9_note : GoodIn wsX9_boySize wsX9_note := goodIn_r _ [5, 6, 7, 45, 46, 47, 48, 49, 50, 51, 52, 53, 54, 55, 56, 57, 58, 59, 60, 61, 62, 63, 64, 65, 66, 67, 68, 69, 70, 71, 72, 73, 74, 75] (by decide +kernel) (by decide +kernel)
set_option maxRecDepth 20000 in
theorem gX9_boySize_X9_note : GoodIn wsX9_boySize (wsV RX9 272 RX9 yX9_note wsX9_note) := goodIn_app (goodIn_of _ (by decide +kernel)) ggX9_boySize_X9_note
set_option maxRecDepth 20000 in
theorem ggX9_boySize_X9_plainSize : GoodIn wsX9_boySize wsX9_plainSize := goodIn_r _ [11, 12, 1, 2, 3, 4, 5, 6, 7, 13, 14, 15, 16, 17, 18, 19, 20, 45, 46, 47, 48, 49, 50, 51, 52, 53, 54, 55, 56, 57, 58, 59, 60, 61, 62, 63, 64, 65, 66, 67, 68, 69, 70, 71, 72, 73, 74, 75] (by decide +kernel) (by decide +kernel)
set_option maxRecDepth 20000 in
theorem gX9_boySize_X9_plainSize : GoodIn wsX9_boySize (wsV RX9 275 RX9 yX9_plainSize wsX9_plainSize) := goodIn_app (goodIn_of _ (by decide +kernel)) ggX9_boySize_X9_plainSize
set_option maxRecDepth 20000 in
theorem ggX9_boySize_X9_mark : GoodIn wsX9_boySize wsX9_mark := goodIn_r _ [24, 12, 1, 2, 3, 4, 5, 6, 7, 25, 26, 27, 28, 29, 30, 31, 32, 33, 34, 35, 36, 37, 38, 39, 40, 41, 42, 43, 44, 8, 9, 10, 11, 13, 14, 15, 16, 17, 18, 19, 20, 45, 46, 47, 48, 49, 50, 51, 52, 53, 54, 55, 56, 57, 58, 59, 60, 61, 62, 63, 64, 65, 66, 67, 68, 69, 70, 71, 72, 73, 74, 75] (by decide +kernel) (by decide +kernel)
set_option maxRecDepth 20000 in
theorem gX9_boySize_X9_mark : GoodIn wsX9_boySize (wsV RX9 278 RX9 yX9_mark wsX9_mark) := goodIn_app (goodIn_of _ (by decide +kernel)) ggX9_boySize_X9_mark
theorem dX9_boySize_0 : decode cX9_boySize 0 = .ok (.aload_n 0, 1) := by decide +kernel
theorem dX9_boySize_1 : decode cX9_boySize 1 = .ok (.bipush 11, 2) := by decide +kernel
theorem dX9_boySize_3 : decode cX9_boySize 3 = .ok (.invokevirtual 272, 3) := by decide +kernel
theorem dX9_boySize_6 : decode cX9_boySize 6 = .ok (.aload_n 0, 1) := by decide +kernel
theorem dX9_boySize_7 : decode cX9_boySize 7 = .ok (.iload_n 1, 1) := by decide +kernel
theorem dX9_boySize_8 : decode cX9_boySize 8 = .ok (.invokevirtual 275, 3) := by decide +kernel
theorem dX9_boySize_11 : decode cX9_boySize 11 = .ok (.istore_n 2, 1) := by decide +kernel
theorem dX9_boySize_12 : decode cX9_boySize 12 = .ok (.iload_n 2, 1) := by decide +kernel
theorem dX9_boySize_13 : decode cX9_boySize 13 = .ok (.aload_n 0, 1) := by decide +kernel
theorem dX9_boySize_14 : decode cX9_boySize 14 = .ok (.iload_n 1, 1) := by decide +kernel
theorem dX9_boySize_15 : decode cX9_boySize 15 = .ok (.invokevirtual 278, 3) := by decide +kernel
theorem dX9_boySize_18 : decode cX9_boySize 18 = .ok (.iadd, 1) := by decide +kernel
theorem dX9_boySize_19 : decode cX9_boySize 19 = .ok (.ireturn, 1) := by decide +kernel
set_option maxRecDepth 20000 in
theorem ggX9_mirrorSize_X9_note : GoodIn wsX9_mirrorSize wsX9_note := goodIn_r _ [5, 6, 7, 21, 22, 23, 24, 25, 26, 27, 28, 29, 30, 31, 32, 33, 34, 35, 36, 37, 38, 39, 40, 41, 42, 43, 44, 45, 46, 47, 48, 49, 50, 51] (by decide +kernel) (by decide +kernel)
set_option maxRecDepth 20000 in
theorem gX9_mirrorSize_X9_note : GoodIn wsX9_mirrorSize (wsV RX9 272 RX9 yX9_note wsX9_note) := goodIn_app (goodIn_of _ (by decide +kernel)) ggX9_mirrorSize_X9_note
set_option maxRecDepth 20000 in
theorem ggX9_mirrorSize_X9_plainSize : GoodIn wsX9_mirrorSize wsX9_plainSize := goodIn_r _ [11, 12, 1, 2, 3, 4, 5, 6, 7, 13, 14, 15, 16, 17, 18, 19, 20, 21, 22, 23, 24, 25, 26, 27, 28, 29, 30, 31, 32, 33, 34, 35, 36, 37, 38, 39, 40, 41, 42, 43, 44, 45, 46, 47, 48, 49, 50, 51] (by decide +kernel) (by decide +kernel)
set_option maxRecDepth 20000 in
theorem gX9_mirrorSize_X9_plainSize : GoodIn wsX9_mirrorSize (wsV RX9 275 RX9 yX9_plainSize wsX9_plainSize) := goodIn_app (goodIn_of _ (by decide +kernel)) ggX9_mirrorSize_X9_plainSize
theorem dX9_mirrorSize_0 : decode cX9_mirrorSize 0 = .ok (.aload_n 0, 1) := by decide +kernel
theorem dX9_mirrorSize_1 : decode cX9_mirrorSize 1 = .ok (.bipush 13, 2) := by decide +kernel
theorem dX9_mirrorSize_3 : decode cX9_mirrorSize 3 = .ok (.invokevirtual 272, 3) := by decide +kernel
theorem dX9_mirrorSize_6 : decode cX9_mirrorSize 6 = .ok (.aload_n 0, 1) := by decide +kernel
theorem dX9_mirrorSize_7 : decode cX9_mirrorSize 7 = .ok (.iload_n 1, 1) := by decide +kernel
theorem dX9_mirrorSize_8 : decode cX9_mirrorSize 8 = .ok (.invokevirtual 275, 3) := by decide +kernel
theorem dX9_mirrorSize_11 : decode cX9_mirrorSize 11 = .ok (.bipush 100, 2) := by decide +kernel
theorem dX9_mirrorSize_13 : decode cX9_mirrorSize 13 = .ok (.isub, 1) := by decide +kernel
theorem dX9_mirrorSize_14 : decode cX9_mirrorSize 14 = .ok (.ireturn, 1) := by decide +kernel
set_option maxRecDepth 20000 in
theorem ggX9_size_X9_note : GoodIn wsX9_size wsX9_note := goodIn_r _ [6, 7, 8, 49, 50, 51, 52, 53, 54, 55, 56, 57, 58, 59, 60, 61, 62, 63, 64, 65, 66, 67, 68, 69, 70, 71, 72, 73, 74, 75, 76, 77, 78, 79] (by decide +kernel) (by decide +kernel)
set_option maxRecDepth 20000 in
theorem gX9_size_X9_note : GoodIn wsX9_size (wsV RX9 272 RX9 yX9_note wsX9_note) := goodIn_app (goodIn_of _ (by decide +kernel)) ggX9_size_X9_note
set_option maxRecDepth 20000 in
theorem ggX9_size_X9_boySize : GoodIn wsX9_size wsX9_boySize := goodIn_r _ [12, 2, 3, 4, 5, 6, 7, 8, 13, 14, 15, 16, 1, 17, 18, 19, 20, 21, 22, 23, 24, 25, 26, 27, 28, 29, 30, 31, 32, 33, 34, 35, 36, 37, 38, 39, 40, 41, 42, 43, 44, 45, 46, 47, 48, 49, 50, 51, 52, 53, 54, 55, 56, 57, 58, 59, 60, 61, 62, 63, 64, 65, 66, 67, 68, 69, 70, 71, 72, 73, 74, 75, 76, 77, 78, 79] (by decide +kernel) (by decide +kernel)
set_option maxRecDepth 20000 in
theorem gX9_size_X9_boySize : GoodIn wsX9_size (wsV RX9 281 RX9 yX9_boySize wsX9_boySize) := goodIn_app (goodIn_of _ (by decide +kernel)) ggX9_size_X9_boySize
set_option maxRecDepth 20000 in
theorem ggX9_size_X9_mirrorSize : GoodIn wsX9_size wsX9_mirrorSize := goodIn_r _ [48, 2, 3, 4, 5, 6, 7, 8, 13, 14, 15, 16, 1, 17, 18, 19, 20, 21, 22, 23, 24, 49, 50, 51, 52, 53, 54, 55, 56, 57, 58, 59, 60, 61, 62, 63, 64, 65, 66, 67, 68, 69, 70, 71, 72, 73, 74, 75, 76, 77, 78, 79] (by decide +kernel) (by decide +kernel)
set_option maxRecDepth 20000 in
theorem gX9_size_X9_mirrorSize : GoodIn wsX9_size (wsV RX9 284 RX9 yX9_mirrorSize wsX9_mirrorSize) := goodIn_app (goodIn_of _ (by decide +kernel)) ggX9_size_X9_mirrorSize
theorem dX9_size_0 : decode cX9_size 0 = .ok (.aload_n 0, 1) := by decide +kernel
theorem dX9_size_1 : decode cX9_size 1 = .ok (.getfield 7, 3) := by decide +kernel
theorem dX9_size_4 : decode cX9_size 4 = .ok (.iconst 1, 1) := by decide +kernel
theorem dX9_size_5 : decode cX9_size 5 = .ok (.iload_n 1, 1) := by decide +kernel
theorem dX9_size_6 : decode cX9_size 6 = .ok (.iadd, 1) := by decide +kernel
theorem dX9_size_7 : decode cX9_size 7 = .ok (.iaload, 1) := by decide +kernel
theorem dX9_size_8 : decode cX9_size 8 = .ok (.tableswitch 65 2 5 #[32, 65, 45, 51], 32) := by decide +kernel
theorem dX9_size_40 : decode cX9_size 40 = .ok (.aload_n 0, 1) := by decide +kernel
theorem dX9_size_41 : decode cX9_size 41 = .ok (.bipush 12, 2) := by decide +kernel
theorem dX9_size_43 : decode cX9_size 43 = .ok (.invokevirtual 272, 3) := by decide +kernel
theorem dX9_size_46 : decode cX9_size 46 = .ok (.aload_n 0, 1) := by decide +kernel
theorem dX9_size_47 : decode cX9_size 47 = .ok (.iload_n 1, 1) := by decide +kernel
theorem dX9_size_48 : decode cX9_size 48 = .ok (.invokevirtual 281, 3) := by decide +kernel
theorem dX9_size_51 : decode cX9_size 51 = .ok (.ineg, 1) := by decide +kernel
theorem dX9_size_52 : decode cX9_size 52 = .ok (.ireturn, 1) := by decide +kernel
theorem dX9_size_53 : decode cX9_size 53 = .ok (.aload_n 0, 1) := by decide +kernel
theorem dX9_size_54 : decode cX9_size 54 = .ok (.iload_n 1, 1) := by decide +kernel
theorem dX9_size_55 : decode cX9_size 55 = .ok (.invokevirtual 284, 3) := by decide +kernel
theorem dX9_size_58 : decode cX9_size 58 = .ok (.ireturn, 1) := by decide +kernel
theorem dX9_size_59 : decode cX9_size 59 = .ok (.aload_n 0, 1) := by decide +kernel
theorem dX9_size_60 : decode cX9_size 60 = .ok (.bipush 14, 2) := by decide +kernel
theorem dX9_size_62 : decode cX9_size 62 = .ok (.invokevirtual 272, 3) := by decide +kernel
theorem dX9_size_65 : decode cX9_size 65 = .ok (.iconst 2, 1) := by decide +kernel
theorem dX9_size_66 : decode cX9_size 66 = .ok (.aload_n 0, 1) := by decide +kernel
theorem dX9_size_67 : decode cX9_size 67 = .ok (.iload_n 1, 1) := by decide +kernel
theorem dX9_size_68 : decode cX9_size 68 = .ok (.invokevirtual 284, 3) := by decide +kernel
theorem dX9_size_71 : decode cX9_size 71 = .ok (.imul, 1) := by decide +kernel
theorem dX9_size_72 : decode cX9_size 72 = .ok (.ireturn, 1) := by decide +kernel
theorem dX9_size_73 : decode cX9_size 73 = .ok (.aload_n 0, 1) := by decide +kernel
theorem dX9_size_74 : decode cX9_size 74 = .ok (.iload_n 1, 1) := by decide +kernel
theorem dX9_size_75 : decode cX9_size 75 = .ok (.invokevirtual 281, 3) := by decide +kernel
theorem dX9_size_78 : decode cX9_size 78 = .ok (.ireturn, 1) := by decide +kernel
set_option maxRecDepth 20000 in
theorem ggX9_plainMark_X9_note : GoodIn wsX9_plainMark wsX9_note := goodIn_r _ [5, 6, 7, 8, 9, 10, 11, 12, 13, 14, 15, 16, 17, 18, 19, 20, 21, 22, 23, 24, 25, 26, 27, 28, 29, 30, 31, 32, 33, 34, 35, 36, 37, 38] (by decide +kernel) (by decide +kernel)
set_option maxRecDepth 20000 in
theorem gX9_plainMark_X9_note : GoodIn wsX9_plainMark (wsV RX9 272 RX9 yX9_note wsX9_note) := goodIn_app (goodIn_of _ (by decide +kernel)) ggX9_plainMark_X9_note
theorem dX9_plainMark_0 : decode cX9_plainMark 0 = .ok (.aload_n 0, 1) := by decide +kernel
theorem dX9_plainMark_1 : decode cX9_plainMark 1 = .ok (.bipush 20, 2) := by decide +kernel
theorem dX9_plainMark_3 : decode cX9_plainMark 3 = .ok (.invokevirtual 272, 3) := by decide +kernel
theorem dX9_plainMark_6 : decode cX9_plainMark 6 = .ok (.iload_n 1, 1) := by decide +kernel
theorem dX9_plainMark_7 : decode cX9_plainMark 7 = .ok (.ireturn, 1) := by decide +kernel
set_option maxRecDepth 20000 in
theorem ggX9_boyMark_X9_note : GoodIn wsX9_boyMark wsX9_note := goodIn_r _ [6, 7, 8, 13, 14, 15, 16, 17, 18, 19, 20, 21, 22, 23, 24, 25, 26, 27, 28, 29, 30, 31, 32, 33, 34, 35, 36, 37, 38, 39, 40, 41, 42, 43] (by decide +kernel) (by decide +kernel)
set_option maxRecDepth 20000 in
theorem gX9_boyMark_X9_note : GoodIn wsX9_boyMark (wsV RX9 272 RX9 yX9_note wsX9_note) := goodIn_app (goodIn_of _ (by decide +kernel)) ggX9_boyMark_X9_note
set_option maxRecDepth 20000 in
theorem ggX9_boyMark_X9_plainMark : GoodIn wsX9_boyMark wsX9_plainMark := goodIn_r _ [12, 2, 3, 4, 5, 6, 7, 8, 13, 14, 15, 16, 17, 18, 19, 20, 21, 22, 23, 24, 25, 26, 27, 28, 29, 30, 31, 32, 33, 34, 35, 36, 37, 38, 39, 40, 41, 42, 43] (by decide +kernel) (by decide +kernel)
set_option maxRecDepth 20000 in
theorem gX9_boyMark_X9_plainMark : GoodIn wsX9_boyMark (wsV RX9 287 RX9 yX9_plainMark wsX9_plainMark) := goodIn_app (goodIn_of _ (by decide +kernel)) ggX9_boyMark_X9_plainMark
theorem dX9_boyMark_0 : decode cX9_boyMark 0 = .ok (.aload_n 0, 1) := by decide +kernel
theorem dX9_boyMark_1 : decode cX9_boyMark 1 = .ok (.bipush 21, 2) := by decide +kernel
theorem dX9_boyMark_3 : decode cX9_boyMark 3 = .ok (.invokevirtual 272, 3) := by decide +kernel
theorem dX9_boyMark_6 : decode cX9_boyMark 6 = .ok (.aload_n 0, 1) := by decide +kernel
theorem dX9_boyMark_7 : decode cX9_boyMark 7 = .ok (.iload_n 1, 1) := by decide +kernel
theorem dX9_boyMark_8 : decode cX9_boyMark 8 = .ok (.invokevirtual 287, 3) := by decide +kernel
theorem dX9_boyMark_11 : decode cX9_boyMark 11 = .ok (.aload_n 0, 1) := by decide +kernel
theorem dX9_boyMark_12 : decode cX9_boyMark 12 = .ok (.getfield 7, 3) := by decide +kernel
theorem dX9_boyMark_15 : decode cX9_boyMark 15 = .ok (.bipush 9, 2) := by decide +kernel
theorem dX9_boyMark_17 : decode cX9_boyMark 17 = .ok (.iload_n 1, 1) := by decide +kernel
theorem dX9_boyMark_18 : decode cX9_boyMark 18 = .ok (.iadd, 1) := by decide +kernel
theorem dX9_boyMark_19 : decode cX9_boyMark 19 = .ok (.iaload, 1) := by decide +kernel
theorem dX9_boyMark_20 : decode cX9_boyMark 20 = .ok (.iadd, 1) := by decide +kernel
theorem dX9_boyMark_21 : decode cX9_boyMark 21 = .ok (.ireturn, 1) := by decide +kernel
set_option maxRecDepth 20000 in
theorem ggX9_mirrorMark_X9_note : GoodIn wsX9_mirrorMark wsX9_note := goodIn_r _ [5, 6, 7, 33, 34, 35, 36, 37, 38, 39, 40, 41, 42, 43, 44, 45, 46, 47, 48, 49, 50, 51, 52, 53, 54, 55, 56, 57, 58, 59, 60, 61, 62, 63] (by decide +kernel) (by decide +kernel)
set_option maxRecDepth 20000 in
theorem gX9_mirrorMark_X9_note : GoodIn wsX9_mirrorMark (wsV RX9 272 RX9 yX9_note wsX9_note) := goodIn_app (goodIn_of _ (by decide +kernel)) ggX9_mirrorMark_X9_note
set_option maxRecDepth 20000 in
theorem ggX9_mirrorMark_X9_plainMark : GoodIn wsX9_mirrorMark wsX9_plainMark := goodIn_r _ [11, 1, 2, 3, 4, 5, 6, 7, 33, 34, 35, 36, 37, 38, 39, 40, 41, 42, 43, 44, 45, 46, 47, 48, 49, 50, 51, 52, 53, 54, 55, 56, 57, 58, 59, 60, 61, 62, 63] (by decide +kernel) (by decide +kernel)
set_option maxRecDepth 20000 in
theorem gX9_mirrorMark_X9_plainMark : GoodIn wsX9_mirrorMark (wsV RX9 287 RX9 yX9_plainMark wsX9_plainMark) := goodIn_app (goodIn_of _ (by decide +kernel)) ggX9_mirrorMark_X9_plainMark
set_option maxRecDepth 20000 in
theorem ggX9_mirrorMark_X9_mirrorOwnSize : GoodIn wsX9_mirrorMark wsX9_mirrorOwnSize := goodIn_r _ [15, 16, 1, 2, 3, 4, 5, 6, 7, 17, 18, 19, 20, 21, 22, 23, 24, 25, 26, 27, 28, 29, 30, 31, 32, 33, 34, 35, 36, 37, 38, 39, 40, 41, 42, 43, 44, 45, 46, 47, 48, 49, 50, 51, 52, 53, 54, 55, 56, 57, 58, 59, 60, 61, 62, 63] (by decide +kernel) (by decide +kernel)
set_option maxRecDepth 20000 in
theorem gX9_mirrorMark_X9_mirrorOwnSize : GoodIn wsX9_mirrorMark (wsV RX9 290 RX9 yX9_mirrorOwnSize wsX9_mirrorOwnSize) := goodIn_app (goodIn_of _ (by decide +kernel)) ggX9_mirrorMark_X9_mirrorOwnSize
theorem dX9_mirrorMark_0 : decode cX9_mirrorMark 0 = .ok (.aload_n 0, 1) := by decide +kernel
theorem dX9_mirrorMark_1 : decode cX9_mirrorMark 1 = .ok (.bipush 23, 2) := by decide +kernel
theorem dX9_mirrorMark_3 : decode cX9_mirrorMark 3 = .ok (.invokevirtual 272, 3) := by decide +kernel
theorem dX9_mirrorMark_6 : decode cX9_mirrorMark 6 = .ok (.aload_n 0, 1) := by decide +kernel
theorem dX9_mirrorMark_7 : decode cX9_mirrorMark 7 = .ok (.iload_n 1, 1) := by decide +kernel
theorem dX9_mirrorMark_8 : decode cX9_mirrorMark 8 = .ok (.invokevirtual 287, 3) := by decide +kernel
theorem dX9_mirrorMark_11 : decode cX9_mirrorMark 11 = .ok (.istore_n 2, 1) := by decide +kernel
theorem dX9_mirrorMark_12 : decode cX9_mirrorMark 12 = .ok (.iload_n 2, 1) := by decide +kernel
theorem dX9_mirrorMark_13 : decode cX9_mirrorMark 13 = .ok (.aload_n 0, 1) := by decide +kernel
theorem dX9_mirrorMark_14 : decode cX9_mirrorMark 14 = .ok (.iload_n 1, 1) := by decide +kernel
theorem dX9_mirrorMark_15 : decode cX9_mirrorMark 15 = .ok (.invokevirtual 290, 3) := by decide +kernel
theorem dX9_mirrorMark_18 : decode cX9_mirrorMark 18 = .ok (.isub, 1) := by decide +kernel
theorem dX9_mirrorMark_19 : decode cX9_mirrorMark 19 = .ok (.ireturn, 1) := by decide +kernel
set_option maxRecDepth 20000 in
theorem ggX9_mirrorOwnSize_X9_note : GoodIn wsX9_mirrorOwnSize wsX9_note := goodIn_r _ [6, 7, 8, 25, 26, 27, 28, 29, 30, 31, 32, 33, 34, 35, 36, 37, 38, 39, 40, 41, 42, 43, 44, 45, 46, 47, 48, 49, 50, 51, 52, 53, 54, 55] (by decide +kernel) (by decide +kernel)
set_option maxRecDepth 20000 in
theorem gX9_mirrorOwnSize_X9_note : GoodIn wsX9_mirrorOwnSize (wsV RX9 272 RX9 yX9_note wsX9_note) := goodIn_app (goodIn_of _ (by decide +kernel)) ggX9_mirrorOwnSize_X9_note
set_option maxRecDepth 20000 in
theorem ggX9_mirrorOwnSize_X9_mirrorSize : GoodIn wsX9_mirrorOwnSize wsX9_mirrorSize := goodIn_r _ [12, 2, 3, 4, 5, 6, 7, 8, 13, 14, 15, 16, 1, 17, 18, 19, 20, 21, 22, 23, 24, 25, 26, 27, 28, 29, 30, 31, 32, 33, 34, 35, 36, 37, 38, 39, 40, 41, 42, 43, 44, 45, 46, 47, 48, 49, 50, 51, 52, 53, 54, 55] (by decide +kernel) (by decide +kernel)
set_option maxRecDepth 20000 in
theorem gX9_mirrorOwnSize_X9_mirrorSize : GoodIn wsX9_mirrorOwnSize (wsV RX9 284 RX9 yX9_mirrorSize wsX9_mirrorSize) := goodIn_app (goodIn_of _ (by decide +kernel)) ggX9_mirrorOwnSize_X9_mirrorSize
theorem dX9_mirrorOwnSize_0 : decode cX9_mirrorOwnSize 0 = .ok (.aload_n 0, 1) := by decide +kernel
theorem dX9_mirrorOwnSize_1 : decode cX9_mirrorOwnSize 1 = .ok (.getfield 7, 3) := by decide +kernel
theorem dX9_mirrorOwnSize_4 : decode cX9_mirrorOwnSize 4 = .ok (.iconst 1, 1) := by decide +kernel
theorem dX9_mirrorOwnSize_5 : decode cX9_mirrorOwnSize 5 = .ok (.iload_n 1, 1) := by decide +kernel
theorem dX9_mirrorOwnSize_6 : decode cX9_mirrorOwnSize 6 = .ok (.iadd, 1) := by decide +kernel
theorem dX9_mirrorOwnSize_7 : decode cX9_mirrorOwnSize 7 = .ok (.iaload, 1) := by decide +kernel
theorem dX9_mirrorOwnSize_8 : decode cX9_mirrorOwnSize 8 = .ok (.iconst 5, 1) := by decide +kernel
theorem dX9_mirrorOwnSize_9 : decode cX9_mirrorOwnSize 9 = .ok (.if_icmp .ne 17, 3) := by decide +kernel
theorem dX9_mirrorOwnSize_12 : decode cX9_mirrorOwnSize 12 = .ok (.aload_n 0, 1) := by decide +kernel
theorem dX9_mirrorOwnSize_13 : decode cX9_mirrorOwnSize 13 = .ok (.bipush 14, 2) := by decide +kernel
theorem dX9_mirrorOwnSize_15 : decode cX9_mirrorOwnSize 15 = .ok (.invokevirtual 272, 3) := by decide +kernel
theorem dX9_mirrorOwnSize_18 : decode cX9_mirrorOwnSize 18 = .ok (.iconst 2, 1) := by decide +kernel
theorem dX9_mirrorOwnSize_19 : decode cX9_mirrorOwnSize 19 = .ok (.aload_n 0, 1) := by decide +kernel
theorem dX9_mirrorOwnSize_20 : decode cX9_mirrorOwnSize 20 = .ok (.iload_n 1, 1) := by decide +kernel
theorem dX9_mirrorOwnSize_21 : decode cX9_mirrorOwnSize 21 = .ok (.invokevirtual 284, 3) := by decide +kernel
theorem dX9_mirrorOwnSize_24 : decode cX9_mirrorOwnSize 24 = .ok (.imul, 1) := by decide +kernel
theorem dX9_mirrorOwnSize_25 : decode cX9_mirrorOwnSize 25 = .ok (.ireturn, 1) := by decide +kernel
theorem dX9_mirrorOwnSize_26 : decode cX9_mirrorOwnSize 26 = .ok (.aload_n 0, 1) := by decide +kernel
theorem dX9_mirrorOwnSize_27 : decode cX9_mirrorOwnSize 27 = .ok (.iload_n 1, 1) := by decide +kernel
theorem dX9_mirrorOwnSize_28 : decode cX9_mirrorOwnSize 28 = .ok (.invokevirtual 284, 3) := by decide +kernel
theorem dX9_mirrorOwnSize_31 : decode cX9_mirrorOwnSize 31 = .ok (.ireturn, 1) := by decide +kernel
set_option maxRecDepth 20000 in
theorem ggX9_mark_X9_note : GoodIn wsX9_mark wsX9_note := goodIn_r _ [6, 7, 8, 41, 42, 43, 44, 45, 46, 47, 48, 49, 50, 51, 52, 53, 54, 55, 56, 57, 58, 59, 60, 61, 62, 63, 64, 65, 66, 67, 68, 69, 70, 71] (by decide +kernel) (by decide +kernel)
set_option maxRecDepth 20000 in
theorem gX9_mark_X9_note : GoodIn wsX9_mark (wsV RX9 272 RX9 yX9_note wsX9_note) := goodIn_app (goodIn_of _ (by decide +kernel)) ggX9_mark_X9_note
set_option maxRecDepth 20000 in
theorem ggX9_mark_X9_boyMark : GoodIn wsX9_mark wsX9_boyMark := goodIn_r _ [12, 1, 2, 3, 4, 5, 6, 7, 8, 13, 14, 15, 16, 41, 42, 43, 44, 45, 46, 47, 48, 49, 50, 51, 52, 53, 54, 55, 56, 57, 58, 59, 60, 61, 62, 63, 64, 65, 66, 67, 68, 69, 70, 71] (by decide +kernel) (by decide +kernel)
set_option maxRecDepth 20000 in
theorem gX9_mark_X9_boyMark : GoodIn wsX9_mark (wsV RX9 293 RX9 yX9_boyMark wsX9_boyMark) := goodIn_app (goodIn_of _ (by decide +kernel)) ggX9_mark_X9_boyMark
set_option maxRecDepth 20000 in
theorem ggX9_mark_X9_mirrorMark : GoodIn wsX9_mark wsX9_mirrorMark := goodIn_r _ [20, 2, 3, 4, 5, 6, 7, 8, 13, 14, 15, 16, 21, 22, 23, 24, 1, 25, 26, 27, 28, 29, 30, 31, 32, 33, 34, 35, 36, 37, 38, 39, 40, 41, 42, 43, 44, 45, 46, 47, 48, 49, 50, 51, 52, 53, 54, 55, 56, 57, 58, 59, 60, 61, 62, 63, 64, 65, 66, 67, 68, 69, 70, 71] (by decide +kernel) (by decide +kernel)
set_option maxRecDepth 20000 in
theorem gX9_mark_X9_mirrorMark : GoodIn wsX9_mark (wsV RX9 296 RX9 yX9_mirrorMark wsX9_mirrorMark) := goodIn_app (goodIn_of _ (by decide +kernel)) ggX9_mark_X9_mirrorMark
theorem dX9_mark_0 : decode cX9_mark 0 = .ok (.aload_n 0, 1) := by decide +kernel
theorem dX9_mark_1 : decode cX9_mark 1 = .ok (.getfield 7, 3) := by decide +kernel
theorem dX9_mark_4 : decode cX9_mark 4 = .ok (.iconst 1, 1) := by decide +kernel
theorem dX9_mark_5 : decode cX9_mark 5 = .ok (.iload_n 1, 1) := by decide +kernel
theorem dX9_mark_6 : decode cX9_mark 6 = .ok (.iadd, 1) := by decide +kernel
theorem dX9_mark_7 : decode cX9_mark 7 = .ok (.iaload, 1) := by decide +kernel
theorem dX9_mark_8 : decode cX9_mark 8 = .ok (.tableswitch 64 1 3 #[58, 28, 42], 28) := by decide +kernel
theorem dX9_mark_36 : decode cX9_mark 36 = .ok (.aload_n 0, 1) := by decide +kernel
theorem dX9_mark_37 : decode cX9_mark 37 = .ok (.bipush 24, 2) := by decide +kernel
theorem dX9_mark_39 : decode cX9_mark 39 = .ok (.invokevirtual 272, 3) := by decide +kernel
theorem dX9_mark_42 : decode cX9_mark 42 = .ok (.iconst 2, 1) := by decide +kernel
theorem dX9_mark_43 : decode cX9_mark 43 = .ok (.aload_n 0, 1) := by decide +kernel
theorem dX9_mark_44 : decode cX9_mark 44 = .ok (.iload_n 1, 1) := by decide +kernel
theorem dX9_mark_45 : decode cX9_mark 45 = .ok (.invokevirtual 293, 3) := by decide +kernel
theorem dX9_mark_48 : decode cX9_mark 48 = .ok (.imul, 1) := by decide +kernel
theorem dX9_mark_49 : decode cX9_mark 49 = .ok (.ireturn, 1) := by decide +kernel
theorem dX9_mark_50 : decode cX9_mark 50 = .ok (.aload_n 0, 1) := by decide +kernel
theorem dX9_mark_51 : decode cX9_mark 51 = .ok (.bipush 22, 2) := by decide +kernel
theorem dX9_mark_53 : decode cX9_mark 53 = .ok (.invokevirtual 272, 3) := by decide +kernel
theorem dX9_mark_56 : decode cX9_mark 56 = .ok (.aload_n 0, 1) := by decide +kernel
theorem dX9_mark_57 : decode cX9_mark 57 = .ok (.iload_n 1, 1) := by decide +kernel
theorem dX9_mark_58 : decode cX9_mark 58 = .ok (.invokevirtual 293, 3) := by decide +kernel
theorem dX9_mark_61 : decode cX9_mark 61 = .ok (.sipush 1000, 3) := by decide +kernel
theorem dX9_mark_64 : decode cX9_mark 64 = .ok (.isub, 1) := by decide +kernel
theorem dX9_mark_65 : decode cX9_mark 65 = .ok (.ireturn, 1) := by decide +kernel
theorem dX9_mark_66 : decode cX9_mark 66 = .ok (.aload_n 0, 1) := by decide +kernel
theorem dX9_mark_67 : decode cX9_mark 67 = .ok (.iload_n 1, 1) := by decide +kernel
theorem dX9_mark_68 : decode cX9_mark 68 = .ok (.invokevirtual 293, 3) := by decide +kernel
theorem dX9_mark_71 : decode cX9_mark 71 = .ok (.ireturn, 1) := by decide +kernel
theorem dX9_mark_72 : decode cX9_mark 72 = .ok (.aload_n 0, 1) := by decide +kernel
theorem dX9_mark_73 : decode cX9_mark 73 = .ok (.iload_n 1, 1) := by decide +kernel
theorem dX9_mark_74 : decode cX9_mark 74 = .ok (.invokevirtual 296, 3) := by decide +kernel
theorem dX9_mark_77 : decode cX9_mark 77 = .ok (.ireturn, 1) := by decide +kernel
set_option maxRecDepth 20000 in
theorem ggX9_ask_X9_isPlayer : GoodIn wsX9_ask wsX9_isPlayer := goodIn_r _ [7, 8, 9, 10, 6, 11, 12, 13, 14, 15, 61, 62, 63, 64, 65, 66, 67, 68, 69, 70, 71, 72, 73, 74, 75, 76, 77, 78, 79, 80, 81, 82, 83, 84, 85, 86, 87, 88, 89, 90, 91] (by decide +kernel) (by decide +kernel)
set_option maxRecDepth 20000 in
theorem gX9_ask_X9_isPlayer : GoodIn wsX9_ask (wsV RX9 210 RX9 yX9_isPlayer wsX9_isPlayer) := goodIn_app (goodIn_of _ (by decide +kernel)) ggX9_ask_X9_isPlayer
set_option maxRecDepth 20000 in
theorem ggX9_ask_X9_in : GoodIn wsX9_ask wsX9_in := goodIn_r _ [15] (by decide +kernel) (by decide +kernel)
set_option maxRecDepth 20000 in
theorem gX9_ask_X9_in : GoodIn wsX9_ask (va_wsS RX9 69 yX9_in wsX9_in) := goodIn_app (goodIn_of _ (by decide +kernel)) ggX9_ask_X9_in
set_option maxRecDepth 20000 in
theorem ggX9_ask_X9_size : GoodIn wsX9_ask wsX9_size := goodIn_r _ [19, 12, 20, 21, 22, 6, 23, 2, 24, 25, 26, 27, 28, 29, 30, 31, 32, 33, 34, 35, 36, 8, 9, 10, 11, 37, 38, 39, 40, 41, 42, 43, 44, 45, 46, 47, 48, 49, 50, 51, 52, 53, 54, 55, 56, 57, 58, 59, 60, 61, 62, 63, 64, 65, 66, 67, 68, 69, 70, 71, 72, 73, 74, 75, 76, 77, 78, 79, 80, 81, 82, 83, 84, 85, 86, 87, 88, 89, 90, 91] (by decide +kernel) (by decide +kernel)
set_option maxRecDepth 20000 in
theorem gX9_ask_X9_size : GoodIn wsX9_ask (wsV RX9 299 RX9 yX9_size wsX9_size) := goodIn_app (goodIn_of _ (by decide +kernel)) ggX9_ask_X9_size
set_option maxRecDepth 20000 in
theorem ggX9_ask_X9_mark : GoodIn wsX9_ask wsX9_mark := goodIn_r _ [40, 12, 20, 21, 22, 6, 23, 2, 24, 41, 42, 43, 44, 45, 46, 47, 48, 49, 50, 51, 52, 53, 54, 55, 56, 57, 58, 59, 60, 29, 30, 31, 32, 33, 34, 35, 36, 8, 9, 10, 11, 61, 62, 63, 64, 65, 66, 67, 68, 69, 70, 71, 72, 73, 74, 75, 76, 77, 78, 79, 80, 81, 82, 83, 84, 85, 86, 87, 88, 89, 90, 91] (by decide +kernel) (by decide +kernel)
set_option maxRecDepth 20000 in
theorem gX9_ask_X9_mark : GoodIn wsX9_ask (wsV RX9 278 RX9 yX9_mark wsX9_mark) := goodIn_app (goodIn_of _ (by decide +kernel)) ggX9_ask_X9_mark
theorem dX9_ask_0 : decode cX9_ask 0 = .ok (.aload_n 0, 1) := by decide +kernel
theorem dX9_ask_1 : decode cX9_ask 1 = .ok (.iload_n 1, 1) := by decide +kernel
theorem dX9_ask_2 : decode cX9_ask 2 = .ok (.invokevirtual 210, 3) := by decide +kernel
theorem dX9_ask_5 : decode cX9_ask 5 = .ok (.ifCond .eq 13, 3) := by decide +kernel
theorem dX9_ask_8 : decode cX9_ask 8 = .ok (.iload_n 2, 1) := by decide +kernel
theorem dX9_ask_9 : decode cX9_ask 9 = .ok (.i2l, 1) := by decide +kernel
theorem dX9_ask_10 : decode cX9_ask 10 = .ok (.lconst 0, 1) := by decide +kernel
theorem dX9_ask_11 : decode cX9_ask 11 = .ok (.lconst 1, 1) := by decide +kernel
theorem dX9_ask_12 : decode cX9_ask 12 = .ok (.invokestatic 69, 3) := by decide +kernel
theorem dX9_ask_15 : decode cX9_ask 15 = .ok (.ifCond .ne 6, 3) := by decide +kernel
theorem dX9_ask_18 : decode cX9_ask 18 = .ok (.ldc 79, 2) := by decide +kernel
theorem dX9_ask_20 : decode cX9_ask 20 = .ok (.ireturn, 1) := by decide +kernel
theorem dX9_ask_21 : decode cX9_ask 21 = .ok (.aload_n 0, 1) := by decide +kernel
theorem dX9_ask_22 : decode cX9_ask 22 = .ok (.iconst 0, 1) := by decide +kernel
theorem dX9_ask_23 : decode cX9_ask 23 = .ok (.putfield 269, 3) := by decide +kernel
theorem dX9_ask_26 : decode cX9_ask 26 = .ok (.iload_n 2, 1) := by decide +kernel
theorem dX9_ask_27 : decode cX9_ask 27 = .ok (.ifCond .ne 11, 3) := by decide +kernel
theorem dX9_ask_30 : decode cX9_ask 30 = .ok (.aload_n 0, 1) := by decide +kernel
theorem dX9_ask_31 : decode cX9_ask 31 = .ok (.iload_n 1, 1) := by decide +kernel
theorem dX9_ask_32 : decode cX9_ask 32 = .ok (.invokevirtual 299, 3) := by decide +kernel
theorem dX9_ask_35 : decode cX9_ask 35 = .ok (.goto 8, 3) := by decide +kernel
theorem dX9_ask_38 : decode cX9_ask 38 = .ok (.aload_n 0, 1) := by decide +kernel
theorem dX9_ask_39 : decode cX9_ask 39 = .ok (.iload_n 1, 1) := by decide +kernel
theorem dX9_ask_40 : decode cX9_ask 40 = .ok (.invokevirtual 278, 3) := by decide +kernel
theorem dX9_ask_43 : decode cX9_ask 43 = .ok (.ireturn, 1) := by decide +kernel
set_option maxRecDepth 20000 in
theorem ggX9_trace_X9_in : GoodIn wsX9_trace wsX9_in := goodIn_r _ [7] (by decide +kernel) (by decide +kernel)
set_option maxRecDepth 20000 in
theorem gX9_trace_X9_in : GoodIn wsX9_trace (va_wsS RX9 69 yX9_in wsX9_in) := goodIn_app (goodIn_of _ (by decide +kernel)) ggX9_trace_X9_in
theorem dX9_trace_0 : decode cX9_trace 0 = .ok (.iload_n 1, 1) := by decide +kernel
theorem dX9_trace_1 : decode cX9_trace 1 = .ok (.i2l, 1) := by decide +kernel
theorem dX9_trace_2 : decode cX9_trace 2 = .ok (.lconst 0, 1) := by decide +kernel
theorem dX9_trace_3 : decode cX9_trace 3 = .ok (.aload_n 0, 1) := by decide +kernel
theorem dX9_trace_4 : decode cX9_trace 4 = .ok (.getfield 269, 3) := by decide +kernel
theorem dX9_trace_7 : decode cX9_trace 7 = .ok (.iconst 1, 1) := by decide +kernel
theorem dX9_trace_8 : decode cX9_trace 8 = .ok (.isub, 1) := by decide +kernel
theorem dX9_trace_9 : decode cX9_trace 9 = .ok (.i2l, 1) := by decide +kernel
theorem dX9_trace_10 : decode cX9_trace 10 = .ok (.invokestatic 69, 3) := by decide +kernel
theorem dX9_trace_13 : decode cX9_trace 13 = .ok (.ifCond .eq 12, 3) := by decide +kernel
theorem dX9_trace_16 : decode cX9_trace 16 = .ok (.aload_n 0, 1) := by decide +kernel
theorem dX9_trace_17 : decode cX9_trace 17 = .ok (.getfield 59, 3) := by decide +kernel
theorem dX9_trace_20 : decode cX9_trace 20 = .ok (.iload_n 1, 1) := by decide +kernel
theorem dX9_trace_21 : decode cX9_trace 21 = .ok (.iaload, 1) := by decide +kernel
theorem dX9_trace_22 : decode cX9_trace 22 = .ok (.goto 5, 3) := by decide +kernel
theorem dX9_trace_25 : decode cX9_trace 25 = .ok (.ldc 252, 2) := by decide +kernel
theorem dX9_trace_27 : decode cX9_trace 27 = .ok (.ireturn, 1) := by decide +kernel
set_option maxRecDepth 20000 in
theorem ggX9_count_X9_players : GoodIn wsX9_count wsX9_players := goodIn_r _ [10, 2, 19, 20, 21, 22, 23, 24, 25, 26, 27, 28, 29, 30, 31, 32, 33, 34, 35, 36, 37, 38, 39, 40, 41, 42, 43, 44, 45, 46, 47, 48, 49] (by decide +kernel) (by decide +kernel)
set_option maxRecDepth 20000 in
theorem gX9_count_X9_players : GoodIn wsX9_count (wsV RX9 174 RX9 yX9_players wsX9_players) := goodIn_app (goodIn_of _ (by decide +kernel)) ggX9_count_X9_players
set_option maxRecDepth 20000 in
theorem ggX9_count_X9_leaders : GoodIn wsX9_count wsX9_leaders := goodIn_r _ [14, 6, 7, 8, 9, 10, 2, 15, 16, 17, 18, 19, 20, 21, 22, 23, 24, 25, 26, 27, 28, 29, 30, 31, 32, 33, 34, 35, 36, 37, 38, 39, 40, 41, 42, 43, 44, 45, 46, 47, 48, 49] (by decide +kernel) (by decide +kernel)
set_option maxRecDepth 20000 in
theorem gX9_count_X9_leaders : GoodIn wsX9_count (wsV RX9 220 RX9 yX9_leaders wsX9_leaders) := goodIn_app (goodIn_of _ (by decide +kernel)) ggX9_count_X9_leaders
theorem dX9_count_0 : decode cX9_count 0 = .ok (.iload_n 1, 1) := by decide +kernel
theorem dX9_count_1 : decode cX9_count 1 = .ok (.tableswitch 114 0 6 #[43, 78, 83, 88, 96, 104, 109], 43) := by decide +kernel
theorem dX9_count_44 : decode cX9_count 44 = .ok (.iconst 0, 1) := by decide +kernel
theorem dX9_count_45 : decode cX9_count 45 = .ok (.istore_n 2, 1) := by decide +kernel
theorem dX9_count_46 : decode cX9_count 46 = .ok (.iconst 0, 1) := by decide +kernel
theorem dX9_count_47 : decode cX9_count 47 = .ok (.istore_n 3, 1) := by decide +kernel
theorem dX9_count_48 : decode cX9_count 48 = .ok (.iload_n 3, 1) := by decide +kernel
theorem dX9_count_49 : decode cX9_count 49 = .ok (.bipush 8, 2) := by decide +kernel
theorem dX9_count_51 : decode cX9_count 51 = .ok (.if_icmp .ge 26, 3) := by decide +kernel
theorem dX9_count_54 : decode cX9_count 54 = .ok (.iload_n 2, 1) := by decide +kernel
theorem dX9_count_55 : decode cX9_count 55 = .ok (.aload_n 0, 1) := by decide +kernel
theorem dX9_count_56 : decode cX9_count 56 = .ok (.getfield 32, 3) := by decide +kernel
theorem dX9_count_59 : decode cX9_count 59 = .ok (.iload_n 3, 1) := by decide +kernel
theorem dX9_count_60 : decode cX9_count 60 = .ok (.baload, 1) := by decide +kernel
theorem dX9_count_61 : decode cX9_count 61 = .ok (.ifCond .eq 7, 3) := by decide +kernel
theorem dX9_count_64 : decode cX9_count 64 = .ok (.iconst 1, 1) := by decide +kernel
theorem dX9_count_65 : decode cX9_count 65 = .ok (.goto 4, 3) := by decide +kernel
theorem dX9_count_68 : decode cX9_count 68 = .ok (.iconst 0, 1) := by decide +kernel
theorem dX9_count_69 : decode cX9_count 69 = .ok (.iadd, 1) := by decide +kernel
theorem dX9_count_70 : decode cX9_count 70 = .ok (.istore_n 2, 1) := by decide +kernel
theorem dX9_count_71 : decode cX9_count 71 = .ok (.iinc 3 1, 3) := by decide +kernel
theorem dX9_count_74 : decode cX9_count 74 = .ok (.goto (-26), 3) := by decide +kernel
theorem dX9_count_77 : decode cX9_count 77 = .ok (.iload_n 2, 1) := by decide +kernel
theorem dX9_count_78 : decode cX9_count 78 = .ok (.ireturn, 1) := by decide +kernel
theorem dX9_count_79 : decode cX9_count 79 = .ok (.aload_n 0, 1) := by decide +kernel
theorem dX9_count_80 : decode cX9_count 80 = .ok (.invokevirtual 174, 3) := by decide +kernel
theorem dX9_count_83 : decode cX9_count 83 = .ok (.ireturn, 1) := by decide +kernel
theorem dX9_count_84 : decode cX9_count 84 = .ok (.aload_n 0, 1) := by decide +kernel
theorem dX9_count_85 : decode cX9_count 85 = .ok (.invokevirtual 220, 3) := by decide +kernel
theorem dX9_count_88 : decode cX9_count 88 = .ok (.ireturn, 1) := by decide +kernel
theorem dX9_count_89 : decode cX9_count 89 = .ok (.aload_n 0, 1) := by decide +kernel
theorem dX9_count_90 : decode cX9_count 90 = .ok (.getfield 7, 3) := by decide +kernel
theorem dX9_count_93 : decode cX9_count 93 = .ok (.bipush 25, 2) := by decide +kernel
theorem dX9_count_95 : decode cX9_count 95 = .ok (.iaload, 1) := by decide +kernel
theorem dX9_count_96 : decode cX9_count 96 = .ok (.ireturn, 1) := by decide +kernel
theorem dX9_count_97 : decode cX9_count 97 = .ok (.aload_n 0, 1) := by decide +kernel
theorem dX9_count_98 : decode cX9_count 98 = .ok (.getfield 7, 3) := by decide +kernel
theorem dX9_count_101 : decode cX9_count 101 = .ok (.bipush 26, 2) := by decide +kernel
theorem dX9_count_103 : decode cX9_count 103 = .ok (.iaload, 1) := by decide +kernel
theorem dX9_count_104 : decode cX9_count 104 = .ok (.ireturn, 1) := by decide +kernel
theorem dX9_count_105 : decode cX9_count 105 = .ok (.aload_n 0, 1) := by decide +kernel
theorem dX9_count_106 : decode cX9_count 106 = .ok (.getfield 171, 3) := by decide +kernel
theorem dX9_count_109 : decode cX9_count 109 = .ok (.ireturn, 1) := by decide +kernel
theorem dX9_count_110 : decode cX9_count 110 = .ok (.aload_n 0, 1) := by decide +kernel
theorem dX9_count_111 : decode cX9_count 111 = .ok (.getfield 89, 3) := by decide +kernel
theorem dX9_count_114 : decode cX9_count 114 = .ok (.ireturn, 1) := by decide +kernel
theorem dX9_count_115 : decode cX9_count 115 = .ok (.ldc 79, 2) := by decide +kernel
theorem dX9_count_117 : decode cX9_count 117 = .ok (.ireturn, 1) := by decide +kernel
theorem dX9_status_0 : decode cX9_status 0 = .ok (.aload_n 0, 1) := by decide +kernel
theorem dX9_status_1 : decode cX9_status 1 = .ok (.getfield 62, 3) := by decide +kernel
theorem dX9_status_4 : decode cX9_status 4 = .ok (.ireturn, 1) := by decide +kernel
