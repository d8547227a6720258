theorem dX6_bend_65 : decode cX6_bend 65 = .ok (.ldc 175, 2) := by decide +kernel
theorem dX6_bend_67 : decode cX6_bend 67 = .ok (.ireturn, 1) := by decide +kernel
theorem dX6_bend_68 : decode cX6_bend 68 = .ok (.aload_n 0, 1) := by decide +kernel
theorem dX6_bend_69 : decode cX6_bend 69 = .ok (.getfield 10, 3) := by decide +kernel
theorem dX6_bend_72 : decode cX6_bend 72 = .ok (.getfield 85, 3) := by decide +kernel
theorem dX6_bend_75 : decode cX6_bend 75 = .ok (.iload_n 2, 1) := by decide +kernel
theorem dX6_bend_76 : decode cX6_bend 76 = .ok (.iaload, 1) := by decide +kernel
theorem dX6_bend_77 : decode cX6_bend 77 = .ok (.aload_n 0, 1) := by decide +kernel
theorem dX6_bend_78 : decode cX6_bend 78 = .ok (.getfield 10, 3) := by decide +kernel
theorem dX6_bend_81 : decode cX6_bend 81 = .ok (.getfield 85, 3) := by decide +kernel
theorem dX6_bend_84 : decode cX6_bend 84 = .ok (.iload_n 1, 1) := by decide +kernel
theorem dX6_bend_85 : decode cX6_bend 85 = .ok (.iaload, 1) := by decide +kernel
theorem dX6_bend_86 : decode cX6_bend 86 = .ok (.isub, 1) := by decide +kernel
theorem dX6_bend_87 : decode cX6_bend 87 = .ok (.istore 5, 2) := by decide +kernel
theorem dX6_bend_89 : decode cX6_bend 89 = .ok (.aload_n 0, 1) := by decide +kernel
theorem dX6_bend_90 : decode cX6_bend 90 = .ok (.getfield 44, 3) := by decide +kernel
theorem dX6_bend_93 : decode cX6_bend 93 = .ok (.getfield 160, 3) := by decide +kernel
theorem dX6_bend_96 : decode cX6_bend 96 = .ok (.iload_n 2, 1) := by decide +kernel
theorem dX6_bend_97 : decode cX6_bend 97 = .ok (.iaload, 1) := by decide +kernel
theorem dX6_bend_98 : decode cX6_bend 98 = .ok (.aload_n 0, 1) := by decide +kernel
theorem dX6_bend_99 : decode cX6_bend 99 = .ok (.getfield 44, 3) := by decide +kernel
theorem dX6_bend_102 : decode cX6_bend 102 = .ok (.getfield 160, 3) := by decide +kernel
theorem dX6_bend_105 : decode cX6_bend 105 = .ok (.iload_n 1, 1) := by decide +kernel
theorem dX6_bend_106 : decode cX6_bend 106 = .ok (.iaload, 1) := by decide +kernel
theorem dX6_bend_107 : decode cX6_bend 107 = .ok (.isub, 1) := by decide +kernel
theorem dX6_bend_108 : decode cX6_bend 108 = .ok (.istore 6, 2) := by decide +kernel
theorem dX6_bend_110 : decode cX6_bend 110 = .ok (.aload_n 0, 1) := by decide +kernel
theorem dX6_bend_111 : decode cX6_bend 111 = .ok (.getfield 10, 3) := by decide +kernel
theorem dX6_bend_114 : decode cX6_bend 114 = .ok (.getfield 85, 3) := by decide +kernel
theorem dX6_bend_117 : decode cX6_bend 117 = .ok (.iload_n 3, 1) := by decide +kernel
theorem dX6_bend_118 : decode cX6_bend 118 = .ok (.iaload, 1) := by decide +kernel
theorem dX6_bend_119 : decode cX6_bend 119 = .ok (.aload_n 0, 1) := by decide +kernel
theorem dX6_bend_120 : decode cX6_bend 120 = .ok (.getfield 10, 3) := by decide +kernel
theorem dX6_bend_123 : decode cX6_bend 123 = .ok (.getfield 85, 3) := by decide +kernel
theorem dX6_bend_126 : decode cX6_bend 126 = .ok (.iload_n 2, 1) := by decide +kernel
theorem dX6_bend_127 : decode cX6_bend 127 = .ok (.iaload, 1) := by decide +kernel
theorem dX6_bend_128 : decode cX6_bend 128 = .ok (.isub, 1) := by decide +kernel
theorem dX6_bend_129 : decode cX6_bend 129 = .ok (.istore 7, 2) := by decide +kernel
theorem dX6_bend_131 : decode cX6_bend 131 = .ok (.aload_n 0, 1) := by decide +kernel
theorem dX6_bend_132 : decode cX6_bend 132 = .ok (.getfield 44, 3) := by decide +kernel
theorem dX6_bend_135 : decode cX6_bend 135 = .ok (.getfield 160, 3) := by decide +kernel
theorem dX6_bend_138 : decode cX6_bend 138 = .ok (.iload_n 3, 1) := by decide +kernel
theorem dX6_bend_139 : decode cX6_bend 139 = .ok (.iaload, 1) := by decide +kernel
theorem dX6_bend_140 : decode cX6_bend 140 = .ok (.aload_n 0, 1) := by decide +kernel
theorem dX6_bend_141 : decode cX6_bend 141 = .ok (.getfield 44, 3) := by decide +kernel
theorem dX6_bend_144 : decode cX6_bend 144 = .ok (.getfield 160, 3) := by decide +kernel
theorem dX6_bend_147 : decode cX6_bend 147 = .ok (.iload_n 2, 1) := by decide +kernel
theorem dX6_bend_148 : decode cX6_bend 148 = .ok (.iaload, 1) := by decide +kernel
theorem dX6_bend_149 : decode cX6_bend 149 = .ok (.isub, 1) := by decide +kernel
theorem dX6_bend_150 : decode cX6_bend 150 = .ok (.istore 8, 2) := by decide +kernel
theorem dX6_bend_152 : decode cX6_bend 152 = .ok (.iload 7, 2) := by decide +kernel
theorem dX6_bend_154 : decode cX6_bend 154 = .ok (.iload 6, 2) := by decide +kernel
theorem dX6_bend_156 : decode cX6_bend 156 = .ok (.imul, 1) := by decide +kernel
theorem dX6_bend_157 : decode cX6_bend 157 = .ok (.iload 5, 2) := by decide +kernel
theorem dX6_bend_159 : decode cX6_bend 159 = .ok (.iload 8, 2) := by decide +kernel
theorem dX6_bend_161 : decode cX6_bend 161 = .ok (.imul, 1) := by decide +kernel
theorem dX6_bend_162 : decode cX6_bend 162 = .ok (.isub, 1) := by decide +kernel
theorem dX6_bend_163 : decode cX6_bend 163 = .ok (.istore 9, 2) := by decide +kernel
theorem dX6_bend_165 : decode cX6_bend 165 = .ok (.iload 9, 2) := by decide +kernel
theorem dX6_bend_167 : decode cX6_bend 167 = .ok (.iload 6, 2) := by decide +kernel
theorem dX6_bend_169 : decode cX6_bend 169 = .ok (.iload 8, 2) := by decide +kernel
theorem dX6_bend_171 : decode cX6_bend 171 = .ok (.imul, 1) := by decide +kernel
theorem dX6_bend_172 : decode cX6_bend 172 = .ok (.iload 4, 2) := by decide +kernel
theorem dX6_bend_174 : decode cX6_bend 174 = .ok (.invokestatic 176, 3) := by decide +kernel
theorem dX6_bend_177 : decode cX6_bend 177 = .ok (.ireturn, 1) := by decide +kernel
set_option maxRecDepth 20000 in
theorem ggX6_left_X6_refusesNew : GoodIn wsX6_left wsX6_refusesNew := goodIn_r _ [7, 2, 8, 9, 10, 6, 11, 12, 13, 14, 15, 16, 17, 18, 108, 109, 110, 111, 112, 113, 114, 115, 116, 117, 118, 119, 120, 121, 122] (by decide +kernel) (by decide +kernel)
set_option maxRecDepth 20000 in
theorem gX6_left_X6_refusesNew : GoodIn wsX6_left (wsV RX6 88 RX6 yX6_refusesNew wsX6_refusesNew) := goodIn_app (goodIn_of _ (by decide +kernel)) ggX6_left_X6_refusesNew
set_option maxRecDepth 20000 in
theorem ggX6_left_X1_take : GoodIn wsX6_left wsX1_take := goodIn_r _ [22, 18, 17, 23, 24, 25, 118, 119, 120, 121, 122] (by decide +kernel) (by decide +kernel)
set_option maxRecDepth 20000 in
theorem gX6_left_X1_take : GoodIn wsX6_left (wsV RX6 74 RX1 yX1_take wsX1_take) := goodIn_app (goodIn_of _ (by decide +kernel)) ggX6_left_X1_take
set_option maxRecDepth 20000 in
theorem ggX6_left_X1_place : GoodIn wsX6_left wsX1_place := goodIn_r _ [29, 17, 18, 118, 119, 120, 121, 122] (by decide +kernel) (by decide +kernel)
set_option maxRecDepth 20000 in
theorem gX6_left_X1_place : GoodIn wsX6_left (wsV RX6 94 RX1 yX1_place wsX1_place) := goodIn_app (goodIn_of _ (by decide +kernel)) ggX6_left_X1_place
set_option maxRecDepth 20000 in
theorem ggX6_left_X6_standing : GoodIn wsX6_left wsX6_standing := goodIn_r _ [33, 34, 35, 36, 37, 38, 39, 40, 41, 42, 43, 44, 45, 46, 47, 48, 49, 50, 51, 52, 53, 54, 55, 56, 57, 58, 59, 60, 61, 62, 63, 64, 65, 66, 67, 68, 69, 70, 71, 72, 73, 74, 75, 76, 77, 78, 79, 80, 81, 82, 83, 84, 85, 86, 87, 88, 89, 90, 91, 92, 93, 94, 95, 96, 97, 98, 99, 100, 101, 102, 103, 104, 105, 106, 107, 108, 109, 110, 111, 112, 113, 114, 115, 116, 117, 123, 124, 125, 126, 127, 128, 129, 130, 118, 119, 120, 121, 122, 131, 132, 133, 134] (by decide +kernel) (by decide +kernel)
set_option maxRecDepth 20000 in
theorem gX6_left_X6_standing : GoodIn wsX6_left (wsV RX6 120 RX6 yX6_standing wsX6_standing) := goodIn_app (goodIn_of _ (by decide +kernel)) ggX6_left_X6_standing
theorem dX6_left_0 : decode cX6_left 0 = .ok (.aload_n 0, 1) := by decide +kernel
theorem dX6_left_1 : decode cX6_left 1 = .ok (.iload_n 1, 1) := by decide +kernel
theorem dX6_left_2 : decode cX6_left 2 = .ok (.invokevirtual 88, 3) := by decide +kernel
theorem dX6_left_5 : decode cX6_left 5 = .ok (.istore_n 2, 1) := by decide +kernel
theorem dX6_left_6 : decode cX6_left 6 = .ok (.iload_n 2, 1) := by decide +kernel
theorem dX6_left_7 : decode cX6_left 7 = .ok (.ifCond .eq 5, 3) := by decide +kernel
theorem dX6_left_10 : decode cX6_left 10 = .ok (.iload_n 2, 1) := by decide +kernel
theorem dX6_left_11 : decode cX6_left 11 = .ok (.ireturn, 1) := by decide +kernel
theorem dX6_left_12 : decode cX6_left 12 = .ok (.aload_n 0, 1) := by decide +kernel
theorem dX6_left_13 : decode cX6_left 13 = .ok (.getfield 16, 3) := by decide +kernel
theorem dX6_left_16 : decode cX6_left 16 = .ok (.aload_n 0, 1) := by decide +kernel
theorem dX6_left_17 : decode cX6_left 17 = .ok (.getfield 10, 3) := by decide +kernel
theorem dX6_left_20 : decode cX6_left 20 = .ok (.invokevirtual 74, 3) := by decide +kernel
theorem dX6_left_23 : decode cX6_left 23 = .ok (.aload_n 0, 1) := by decide +kernel
theorem dX6_left_24 : decode cX6_left 24 = .ok (.getfield 16, 3) := by decide +kernel
theorem dX6_left_27 : decode cX6_left 27 = .ok (.iload_n 1, 1) := by decide +kernel
theorem dX6_left_28 : decode cX6_left 28 = .ok (.invokevirtual 94, 3) := by decide +kernel
theorem dX6_left_31 : decode cX6_left 31 = .ok (.pop, 1) := by decide +kernel
theorem dX6_left_32 : decode cX6_left 32 = .ok (.aload_n 0, 1) := by decide +kernel
theorem dX6_left_33 : decode cX6_left 33 = .ok (.aload_n 0, 1) := by decide +kernel
theorem dX6_left_34 : decode cX6_left 34 = .ok (.getfield 16, 3) := by decide +kernel
theorem dX6_left_37 : decode cX6_left 37 = .ok (.invokevirtual 120, 3) := by decide +kernel
theorem dX6_left_40 : decode cX6_left 40 = .ok (.ireturn, 1) := by decide +kernel
set_option maxRecDepth 20000 in
theorem ggX6_listen_X6_tellLeftBy : GoodIn wsX6_listen wsX6_tellLeftBy := goodIn_r _ [13, 8, 14, 1, 15, 16, 17, 18, 19, 20, 21, 22, 23, 24, 25, 26, 27, 28, 29, 30, 31, 32, 33, 34, 35, 36, 37, 38, 39, 40, 41, 42, 43, 44, 45, 46, 47, 48, 49, 50, 51, 6, 52, 53, 54, 55, 56, 57, 58, 59, 60, 61, 62, 63, 64, 65, 66, 67, 68, 69, 70, 71, 72, 73, 74, 75, 76, 77, 78, 79, 80, 81, 82, 83, 84, 85, 86, 87, 88, 89, 90, 91, 92, 93, 94, 95, 96, 102, 103, 104, 105, 106, 107, 108, 109, 97, 98, 99, 100, 101, 110, 111, 112, 113] (by decide +kernel) (by decide +kernel)
set_option maxRecDepth 20000 in
theorem gX6_listen_X6_tellLeftBy : GoodIn wsX6_listen (wsV RX6 184 RX6 yX6_tellLeftBy wsX6_tellLeftBy) := goodIn_app (goodIn_of _ (by decide +kernel)) ggX6_listen_X6_tellLeftBy
theorem dX6_listen_0 : decode cX6_listen 0 = .ok (.aload_n 0, 1) := by decide +kernel
theorem dX6_listen_1 : decode cX6_listen 1 = .ok (.getfield 10, 3) := by decide +kernel
theorem dX6_listen_4 : decode cX6_listen 4 = .ok (.getfield 166, 3) := by decide +kernel
theorem dX6_listen_7 : decode cX6_listen 7 = .ok (.bipush 7, 2) := by decide +kernel
theorem dX6_listen_9 : decode cX6_listen 9 = .ok (.if_icmp .lt 6, 3) := by decide +kernel
theorem dX6_listen_12 : decode cX6_listen 12 = .ok (.bipush (-3), 2) := by decide +kernel
theorem dX6_listen_14 : decode cX6_listen 14 = .ok (.ireturn, 1) := by decide +kernel
theorem dX6_listen_15 : decode cX6_listen 15 = .ok (.aload_n 0, 1) := by decide +kernel
theorem dX6_listen_16 : decode cX6_listen 16 = .ok (.getfield 10, 3) := by decide +kernel
theorem dX6_listen_19 : decode cX6_listen 19 = .ok (.getfield 166, 3) := by decide +kernel
theorem dX6_listen_22 : decode cX6_listen 22 = .ok (.ifCond .gt 6, 3) := by decide +kernel
theorem dX6_listen_25 : decode cX6_listen 25 = .ok (.bipush (-9), 2) := by decide +kernel
theorem dX6_listen_27 : decode cX6_listen 27 = .ok (.ireturn, 1) := by decide +kernel
theorem dX6_listen_28 : decode cX6_listen 28 = .ok (.aload_n 0, 1) := by decide +kernel
theorem dX6_listen_29 : decode cX6_listen 29 = .ok (.getfield 10, 3) := by decide +kernel
theorem dX6_listen_32 : decode cX6_listen 32 = .ok (.getfield 85, 3) := by decide +kernel
theorem dX6_listen_35 : decode cX6_listen 35 = .ok (.aload_n 0, 1) := by decide +kernel
theorem dX6_listen_36 : decode cX6_listen 36 = .ok (.getfield 10, 3) := by decide +kernel
theorem dX6_listen_39 : decode cX6_listen 39 = .ok (.getfield 166, 3) := by decide +kernel
theorem dX6_listen_42 : decode cX6_listen 42 = .ok (.iconst 1, 1) := by decide +kernel
theorem dX6_listen_43 : decode cX6_listen 43 = .ok (.isub, 1) := by decide +kernel
theorem dX6_listen_44 : decode cX6_listen 44 = .ok (.iaload, 1) := by decide +kernel
theorem dX6_listen_45 : decode cX6_listen 45 = .ok (.iconst 1, 1) := by decide +kernel
theorem dX6_listen_46 : decode cX6_listen 46 = .ok (.iadd, 1) := by decide +kernel
theorem dX6_listen_47 : decode cX6_listen 47 = .ok (.istore_n 1, 1) := by decide +kernel
theorem dX6_listen_48 : decode cX6_listen 48 = .ok (.bipush 100, 2) := by decide +kernel
theorem dX6_listen_50 : decode cX6_listen 50 = .ok (.sipush 2999, 3) := by decide +kernel
theorem dX6_listen_53 : decode cX6_listen 53 = .ok (.iload_n 1, 1) := by decide +kernel
theorem dX6_listen_54 : decode cX6_listen 54 = .ok (.isub, 1) := by decide +kernel
theorem dX6_listen_55 : decode cX6_listen 55 = .ok (.iconst 1, 1) := by decide +kernel
theorem dX6_listen_56 : decode cX6_listen 56 = .ok (.iadd, 1) := by decide +kernel
theorem dX6_listen_57 : decode cX6_listen 57 = .ok (.invokestatic 181, 3) := by decide +kernel
theorem dX6_listen_60 : decode cX6_listen 60 = .ok (.istore_n 2, 1) := by decide +kernel
theorem dX6_listen_61 : decode cX6_listen 61 = .ok (.aload_n 0, 1) := by decide +kernel
theorem dX6_listen_62 : decode cX6_listen 62 = .ok (.iload_n 1, 1) := by decide +kernel
theorem dX6_listen_63 : decode cX6_listen 63 = .ok (.iload_n 2, 1) := by decide +kernel
theorem dX6_listen_64 : decode cX6_listen 64 = .ok (.invokevirtual 184, 3) := by decide +kernel
theorem dX6_listen_67 : decode cX6_listen 67 = .ok (.bipush (-9), 2) := by decide +kernel
theorem dX6_listen_69 : decode cX6_listen 69 = .ok (.istore_n 3, 1) := by decide +kernel
theorem dX6_listen_70 : decode cX6_listen 70 = .ok (.iconst 0, 1) := by decide +kernel
theorem dX6_listen_71 : decode cX6_listen 71 = .ok (.istore 4, 2) := by decide +kernel
theorem dX6_listen_73 : decode cX6_listen 73 = .ok (.iconst 0, 1) := by decide +kernel
theorem dX6_listen_74 : decode cX6_listen 74 = .ok (.istore 5, 2) := by decide +kernel
theorem dX6_listen_76 : decode cX6_listen 76 = .ok (.iload 5, 2) := by decide +kernel
theorem dX6_listen_78 : decode cX6_listen 78 = .ok (.iload_n 2, 1) := by decide +kernel
theorem dX6_listen_79 : decode cX6_listen 79 = .ok (.if_icmp .ge 51, 3) := by decide +kernel
theorem dX6_listen_82 : decode cX6_listen 82 = .ok (.aload_n 0, 1) := by decide +kernel
theorem dX6_listen_83 : decode cX6_listen 83 = .ok (.getfield 59, 3) := by decide +kernel
theorem dX6_listen_86 : decode cX6_listen 86 = .ok (.iload 5, 2) := by decide +kernel
theorem dX6_listen_88 : decode cX6_listen 88 = .ok (.iaload, 1) := by decide +kernel
theorem dX6_listen_89 : decode cX6_listen 89 = .ok (.ifCond .le 35, 3) := by decide +kernel
theorem dX6_listen_92 : decode cX6_listen 92 = .ok (.iload_n 3, 1) := by decide +kernel
theorem dX6_listen_93 : decode cX6_listen 93 = .ok (.bipush (-9), 2) := by decide +kernel
theorem dX6_listen_95 : decode cX6_listen 95 = .ok (.if_icmp .eq 15, 3) := by decide +kernel
theorem dX6_listen_98 : decode cX6_listen 98 = .ok (.aload_n 0, 1) := by decide +kernel
theorem dX6_listen_99 : decode cX6_listen 99 = .ok (.getfield 59, 3) := by decide +kernel
theorem dX6_listen_102 : decode cX6_listen 102 = .ok (.iload 5, 2) := by decide +kernel
theorem dX6_listen_104 : decode cX6_listen 104 = .ok (.iaload, 1) := by decide +kernel
theorem dX6_listen_105 : decode cX6_listen 105 = .ok (.iload 4, 2) := by decide +kernel
theorem dX6_listen_107 : decode cX6_listen 107 = .ok (.if_icmp .ge 17, 3) := by decide +kernel
theorem dX6_listen_110 : decode cX6_listen 110 = .ok (.iload_n 1, 1) := by decide +kernel
theorem dX6_listen_111 : decode cX6_listen 111 = .ok (.iload 5, 2) := by decide +kernel
theorem dX6_listen_113 : decode cX6_listen 113 = .ok (.iadd, 1) := by decide +kernel
theorem dX6_listen_114 : decode cX6_listen 114 = .ok (.istore_n 3, 1) := by decide +kernel
theorem dX6_listen_115 : decode cX6_listen 115 = .ok (.aload_n 0, 1) := by decide +kernel
theorem dX6_listen_116 : decode cX6_listen 116 = .ok (.getfield 59, 3) := by decide +kernel
theorem dX6_listen_119 : decode cX6_listen 119 = .ok (.iload 5, 2) := by decide +kernel
theorem dX6_listen_121 : decode cX6_listen 121 = .ok (.iaload, 1) := by decide +kernel
theorem dX6_listen_122 : decode cX6_listen 122 = .ok (.istore 4, 2) := by decide +kernel
theorem dX6_listen_124 : decode cX6_listen 124 = .ok (.iinc 5 1, 3) := by decide +kernel
theorem dX6_listen_127 : decode cX6_listen 127 = .ok (.goto (-51), 3) := by decide +kernel
theorem dX6_listen_130 : decode cX6_listen 130 = .ok (.iload_n 3, 1) := by decide +kernel
theorem dX6_listen_131 : decode cX6_listen 131 = .ok (.ireturn, 1) := by decide +kernel
set_option maxRecDepth 20000 in
theorem ggX6_odds_J6_bitCount_0f7a4 : GoodIn wsX6_odds wsJ6_bitCount_0f7a4 := goodIn_r _ [6, 7, 8, 9] (by decide +kernel) (by decide +kernel)
set_option maxRecDepth 20000 in
theorem gX6_odds_J6_bitCount_0f7a4 : GoodIn wsX6_odds (va_wsS RX6 187 yJ6_bitCount_0f7a4 wsJ6_bitCount_0f7a4) := goodIn_app (goodIn_of _ (by decide +kernel)) ggX6_odds_J6_bitCount_0f7a4
set_option maxRecDepth 20000 in
theorem ggX6_odds_X6_power : GoodIn wsX6_odds wsX6_power := goodIn_r _ [13] (by decide +kernel) (by decide +kernel)
set_option maxRecDepth 20000 in
theorem gX6_odds_X6_power : GoodIn wsX6_odds (va_wsS RX6 192 yX6_power wsX6_power) := goodIn_app (goodIn_of _ (by decide +kernel)) ggX6_odds_X6_power
set_option maxRecDepth 20000 in
theorem ggX6_odds_X6_leavesOne : GoodIn wsX6_odds wsX6_leavesOne := goodIn_r _ [17, 18, 1, 2, 19, 20, 21, 22, 23, 24, 25, 26, 27, 28, 29, 30, 31, 32, 33, 34, 35, 36, 37, 38, 39, 40, 41, 42, 43, 44, 45, 46, 47, 48, 49, 50, 51, 52, 53, 54, 55, 56, 57, 58, 59, 60, 61, 62, 63, 64, 65, 66, 67, 68, 69, 70, 71, 72, 73, 74, 75, 76, 77, 78, 79, 80, 81, 82, 83, 84, 85, 86, 87, 88, 89, 90, 91, 92, 93, 94, 95, 96, 97, 98, 99, 100, 101, 102, 103, 104, 105, 106, 118, 119, 120, 121, 122, 123, 124, 125, 126, 127, 128, 129, 130, 131, 132, 133, 134, 135, 136, 137, 138, 139, 140, 141, 142, 143, 144] (by decide +kernel) (by decide +kernel)
set_option maxRecDepth 20000 in
theorem gX6_odds_X6_leavesOne : GoodIn wsX6_odds (wsV RX6 195 RX6 yX6_leavesOne wsX6_leavesOne) := goodIn_app (goodIn_of _ (by decide +kernel)) ggX6_odds_X6_leavesOne
set_option maxRecDepth 20000 in
theorem ggX6_odds_X0_part : GoodIn wsX6_odds wsX0_part := goodIn_r _ [110, 111, 112, 75, 113, 114, 115, 109, 116, 117] (by decide +kernel) (by decide +kernel)
set_option maxRecDepth 20000 in
theorem gX6_odds_X0_part : GoodIn wsX6_odds (va_wsS RX6 176 yX0_part wsX0_part) := goodIn_app (goodIn_of _ (by decide +kernel)) ggX6_odds_X0_part
theorem dX6_odds_0 : decode cX6_odds 0 = .ok (.iload_n 1, 1) := by decide +kernel
theorem dX6_odds_1 : decode cX6_odds 1 = .ok (.ifCond .lt 18, 3) := by decide +kernel
theorem dX6_odds_4 : decode cX6_odds 4 = .ok (.iload_n 1, 1) := by decide +kernel
theorem dX6_odds_5 : decode cX6_odds 5 = .ok (.bipush 10, 2) := by decide +kernel
theorem dX6_odds_7 : decode cX6_odds 7 = .ok (.if_icmp .gt 12, 3) := by decide +kernel
theorem dX6_odds_10 : decode cX6_odds 10 = .ok (.iload_n 2, 1) := by decide +kernel
theorem dX6_odds_11 : decode cX6_odds 11 = .ok (.ifCond .lt 8, 3) := by decide +kernel
theorem dX6_odds_14 : decode cX6_odds 14 = .ok (.iload_n 2, 1) := by decide +kernel
theorem dX6_odds_15 : decode cX6_odds 15 = .ok (.iconst 1, 1) := by decide +kernel
theorem dX6_odds_16 : decode cX6_odds 16 = .ok (.if_icmp .le 5, 3) := by decide +kernel
theorem dX6_odds_19 : decode cX6_odds 19 = .ok (.iconst (-1), 1) := by decide +kernel
theorem dX6_odds_20 : decode cX6_odds 20 = .ok (.ireturn, 1) := by decide +kernel
theorem dX6_odds_21 : decode cX6_odds 21 = .ok (.iconst 0, 1) := by decide +kernel
theorem dX6_odds_22 : decode cX6_odds 22 = .ok (.istore_n 3, 1) := by decide +kernel
theorem dX6_odds_23 : decode cX6_odds 23 = .ok (.iconst 0, 1) := by decide +kernel
theorem dX6_odds_24 : decode cX6_odds 24 = .ok (.istore 4, 2) := by decide +kernel
theorem dX6_odds_26 : decode cX6_odds 26 = .ok (.iload 4, 2) := by decide +kernel
theorem dX6_odds_28 : decode cX6_odds 28 = .ok (.iconst 1, 1) := by decide +kernel
theorem dX6_odds_29 : decode cX6_odds 29 = .ok (.aload_n 0, 1) := by decide +kernel
theorem dX6_odds_30 : decode cX6_odds 30 = .ok (.getfield 10, 3) := by decide +kernel
theorem dX6_odds_33 : decode cX6_odds 33 = .ok (.getfield 166, 3) := by decide +kernel
theorem dX6_odds_36 : decode cX6_odds 36 = .ok (.ishl, 1) := by decide +kernel
theorem dX6_odds_37 : decode cX6_odds 37 = .ok (.if_icmp .ge 61, 3) := by decide +kernel
theorem dX6_odds_40 : decode cX6_odds 40 = .ok (.iload 4, 2) := by decide +kernel
theorem dX6_odds_42 : decode cX6_odds 42 = .ok (.invokestatic 187, 3) := by decide +kernel
theorem dX6_odds_45 : decode cX6_odds 45 = .ok (.istore 5, 2) := by decide +kernel
theorem dX6_odds_47 : decode cX6_odds 47 = .ok (.bipush 10, 2) := by decide +kernel
theorem dX6_odds_49 : decode cX6_odds 49 = .ok (.iload_n 1, 1) := by decide +kernel
theorem dX6_odds_50 : decode cX6_odds 50 = .ok (.isub, 1) := by decide +kernel
theorem dX6_odds_51 : decode cX6_odds 51 = .ok (.iload 5, 2) := by decide +kernel
theorem dX6_odds_53 : decode cX6_odds 53 = .ok (.invokestatic 192, 3) := by decide +kernel
theorem dX6_odds_56 : decode cX6_odds 56 = .ok (.iload_n 1, 1) := by decide +kernel
theorem dX6_odds_57 : decode cX6_odds 57 = .ok (.aload_n 0, 1) := by decide +kernel
theorem dX6_odds_58 : decode cX6_odds 58 = .ok (.getfield 10, 3) := by decide +kernel
theorem dX6_odds_61 : decode cX6_odds 61 = .ok (.getfield 166, 3) := by decide +kernel
theorem dX6_odds_64 : decode cX6_odds 64 = .ok (.iload 5, 2) := by decide +kernel
theorem dX6_odds_66 : decode cX6_odds 66 = .ok (.isub, 1) := by decide +kernel
theorem dX6_odds_67 : decode cX6_odds 67 = .ok (.invokestatic 192, 3) := by decide +kernel
theorem dX6_odds_70 : decode cX6_odds 70 = .ok (.imul, 1) := by decide +kernel
theorem dX6_odds_71 : decode cX6_odds 71 = .ok (.istore 6, 2) := by decide +kernel
theorem dX6_odds_73 : decode cX6_odds 73 = .ok (.iload 6, 2) := by decide +kernel
theorem dX6_odds_75 : decode cX6_odds 75 = .ok (.ifCond .le 17, 3) := by decide +kernel
theorem dX6_odds_78 : decode cX6_odds 78 = .ok (.aload_n 0, 1) := by decide +kernel
theorem dX6_odds_79 : decode cX6_odds 79 = .ok (.iload 4, 2) := by decide +kernel
theorem dX6_odds_81 : decode cX6_odds 81 = .ok (.invokevirtual 195, 3) := by decide +kernel
theorem dX6_odds_84 : decode cX6_odds 84 = .ok (.ifCond .eq 8, 3) := by decide +kernel
theorem dX6_odds_87 : decode cX6_odds 87 = .ok (.iload_n 3, 1) := by decide +kernel
theorem dX6_odds_88 : decode cX6_odds 88 = .ok (.iload 6, 2) := by decide +kernel
theorem dX6_odds_90 : decode cX6_odds 90 = .ok (.iadd, 1) := by decide +kernel
theorem dX6_odds_91 : decode cX6_odds 91 = .ok (.istore_n 3, 1) := by decide +kernel
theorem dX6_odds_92 : decode cX6_odds 92 = .ok (.iinc 4 1, 3) := by decide +kernel
theorem dX6_odds_95 : decode cX6_odds 95 = .ok (.goto (-69), 3) := by decide +kernel
theorem dX6_odds_98 : decode cX6_odds 98 = .ok (.iload_n 3, 1) := by decide +kernel
theorem dX6_odds_99 : decode cX6_odds 99 = .ok (.bipush 10, 2) := by decide +kernel
theorem dX6_odds_101 : decode cX6_odds 101 = .ok (.aload_n 0, 1) := by decide +kernel
theorem dX6_odds_102 : decode cX6_odds 102 = .ok (.getfield 10, 3) := by decide +kernel
theorem dX6_odds_105 : decode cX6_odds 105 = .ok (.getfield 166, 3) := by decide +kernel
theorem dX6_odds_108 : decode cX6_odds 108 = .ok (.invokestatic 192, 3) := by decide +kernel
theorem dX6_odds_111 : decode cX6_odds 111 = .ok (.iload_n 2, 1) := by decide +kernel
theorem dX6_odds_112 : decode cX6_odds 112 = .ok (.invokestatic 176, 3) := by decide +kernel
theorem dX6_odds_115 : decode cX6_odds 115 = .ok (.ireturn, 1) := by decide +kernel
set_option maxRecDepth 20000 in
theorem ggX6_keep_X6_isImage : GoodIn wsX6_keep wsX6_isImage := goodIn_r _ [8] (by decide +kernel) (by decide +kernel)
set_option maxRecDepth 20000 in
theorem gX6_keep_X6_isImage : GoodIn wsX6_keep (va_wsS RX6 198 yX6_isImage wsX6_isImage) := goodIn_app (goodIn_of _ (by decide +kernel)) ggX6_keep_X6_isImage
set_option maxRecDepth 20000 in
theorem ggX6_keep_X1_take : GoodIn wsX6_keep wsX1_take := goodIn_r _ [13, 14, 15, 16, 17, 18, 29, 30, 31, 32, 33] (by decide +kernel) (by decide +kernel)
set_option maxRecDepth 20000 in
theorem gX6_keep_X1_take : GoodIn wsX6_keep (wsV RX6 74 RX1 yX1_take wsX1_take) := goodIn_app (goodIn_of _ (by decide +kernel)) ggX6_keep_X1_take
theorem dX6_keep_0 : decode cX6_keep 0 = .ok (.iload_n 1, 1) := by decide +kernel
theorem dX6_keep_1 : decode cX6_keep 1 = .ok (.invokestatic 198, 3) := by decide +kernel
theorem dX6_keep_4 : decode cX6_keep 4 = .ok (.ifCond .ne 5, 3) := by decide +kernel
theorem dX6_keep_7 : decode cX6_keep 7 = .ok (.iconst (-1), 1) := by decide +kernel
theorem dX6_keep_8 : decode cX6_keep 8 = .ok (.ireturn, 1) := by decide +kernel
theorem dX6_keep_9 : decode cX6_keep 9 = .ok (.aload_n 0, 1) := by decide +kernel
theorem dX6_keep_10 : decode cX6_keep 10 = .ok (.getfield 26, 3) := by decide +kernel
theorem dX6_keep_13 : decode cX6_keep 13 = .ok (.iload_n 1, 1) := by decide +kernel
theorem dX6_keep_14 : decode cX6_keep 14 = .ok (.aaload, 1) := by decide +kernel
theorem dX6_keep_15 : decode cX6_keep 15 = .ok (.aload_n 0, 1) := by decide +kernel
theorem dX6_keep_16 : decode cX6_keep 16 = .ok (.getfield 10, 3) := by decide +kernel
theorem dX6_keep_19 : decode cX6_keep 19 = .ok (.invokevirtual 74, 3) := by decide +kernel
theorem dX6_keep_22 : decode cX6_keep 22 = .ok (.aload_n 0, 1) := by decide +kernel
theorem dX6_keep_23 : decode cX6_keep 23 = .ok (.getfield 30, 3) := by decide +kernel
theorem dX6_keep_26 : decode cX6_keep 26 = .ok (.iload_n 1, 1) := by decide +kernel
theorem dX6_keep_27 : decode cX6_keep 27 = .ok (.iconst 1, 1) := by decide +kernel
theorem dX6_keep_28 : decode cX6_keep 28 = .ok (.bastore, 1) := by decide +kernel
theorem dX6_keep_29 : decode cX6_keep 29 = .ok (.aload_n 0, 1) := by decide +kernel
theorem dX6_keep_30 : decode cX6_keep 30 = .ok (.getfield 10, 3) := by decide +kernel
theorem dX6_keep_33 : decode cX6_keep 33 = .ok (.getfield 166, 3) := by decide +kernel
theorem dX6_keep_36 : decode cX6_keep 36 = .ok (.ireturn, 1) := by decide +kernel
set_option maxRecDepth 20000 in
theorem ggX6_back_X6_isImage : GoodIn wsX6_back wsX6_isImage := goodIn_r _ [9] (by decide +kernel) (by decide +kernel)
set_option maxRecDepth 20000 in
theorem gX6_back_X6_isImage : GoodIn wsX6_back (va_wsS RX6 198 yX6_isImage wsX6_isImage) := goodIn_app (goodIn_of _ (by decide +kernel)) ggX6_back_X6_isImage
set_option maxRecDepth 20000 in
theorem ggX6_back_X1_take : GoodIn wsX6_back wsX1_take := goodIn_r _ [14, 15, 16, 17, 18, 19, 36, 37, 38, 39, 40] (by decide +kernel) (by decide +kernel)
set_option maxRecDepth 20000 in
theorem gX6_back_X1_take : GoodIn wsX6_back (wsV RX6 74 RX1 yX1_take wsX1_take) := goodIn_app (goodIn_of _ (by decide +kernel)) ggX6_back_X1_take
set_option maxRecDepth 20000 in
theorem ggX6_back_X3_forget : GoodIn wsX6_back wsX3_forget := goodIn_r _ [24, 25, 41, 42, 43] (by decide +kernel) (by decide +kernel)
set_option maxRecDepth 20000 in
theorem gX6_back_X3_forget : GoodIn wsX6_back (wsV RX6 78 RX3 yX3_forget wsX3_forget) := goodIn_app (goodIn_of _ (by decide +kernel)) ggX6_back_X3_forget
theorem dX6_back_0 : decode cX6_back 0 = .ok (.iload_n 1, 1) := by decide +kernel
theorem dX6_back_1 : decode cX6_back 1 = .ok (.invokestatic 198, 3) := by decide +kernel
theorem dX6_back_4 : decode cX6_back 4 = .ok (.ifCond .ne 5, 3) := by decide +kernel
theorem dX6_back_7 : decode cX6_back 7 = .ok (.iconst (-1), 1) := by decide +kernel
theorem dX6_back_8 : decode cX6_back 8 = .ok (.ireturn, 1) := by decide +kernel
theorem dX6_back_9 : decode cX6_back 9 = .ok (.aload_n 0, 1) := by decide +kernel
theorem dX6_back_10 : decode cX6_back 10 = .ok (.getfield 30, 3) := by decide +kernel
theorem dX6_back_13 : decode cX6_back 13 = .ok (.iload_n 1, 1) := by decide +kernel
theorem dX6_back_14 : decode cX6_back 14 = .ok (.baload, 1) := by decide +kernel
theorem dX6_back_15 : decode cX6_back 15 = .ok (.ifCond .ne 6, 3) := by decide +kernel
theorem dX6_back_18 : decode cX6_back 18 = .ok (.bipush (-2), 2) := by decide +kernel
theorem dX6_back_20 : decode cX6_back 20 = .ok (.ireturn, 1) := by decide +kernel
theorem dX6_back_21 : decode cX6_back 21 = .ok (.aload_n 0, 1) := by decide +kernel
theorem dX6_back_22 : decode cX6_back 22 = .ok (.getfield 10, 3) := by decide +kernel
theorem dX6_back_25 : decode cX6_back 25 = .ok (.aload_n 0, 1) := by decide +kernel
theorem dX6_back_26 : decode cX6_back 26 = .ok (.getfield 26, 3) := by decide +kernel
theorem dX6_back_29 : decode cX6_back 29 = .ok (.iload_n 1, 1) := by decide +kernel
theorem dX6_back_30 : decode cX6_back 30 = .ok (.aaload, 1) := by decide +kernel
theorem dX6_back_31 : decode cX6_back 31 = .ok (.invokevirtual 74, 3) := by decide +kernel
theorem dX6_back_34 : decode cX6_back 34 = .ok (.aload_n 0, 1) := by decide +kernel
theorem dX6_back_35 : decode cX6_back 35 = .ok (.getfield 22, 3) := by decide +kernel
theorem dX6_back_38 : decode cX6_back 38 = .ok (.invokevirtual 78, 3) := by decide +kernel
theorem dX6_back_41 : decode cX6_back 41 = .ok (.aload_n 0, 1) := by decide +kernel
theorem dX6_back_42 : decode cX6_back 42 = .ok (.getfield 10, 3) := by decide +kernel
theorem dX6_back_45 : decode cX6_back 45 = .ok (.getfield 166, 3) := by decide +kernel
theorem dX6_back_48 : decode cX6_back 48 = .ok (.ireturn, 1) := by decide +kernel
set_option maxRecDepth 20000 in
theorem ggX6_count_X6_standing : GoodIn wsX6_count wsX6_standing := goodIn_r _ [14, 15, 16, 17, 18, 19, 20, 21, 22, 23, 24, 25, 26, 27, 28, 29, 30, 31, 32, 33, 34, 35, 36, 37, 38, 39, 40, 41, 42, 43, 44, 45, 46, 47, 48, 49, 50, 51, 52, 53, 54, 55, 56, 57, 58, 59, 60, 61, 62, 63, 64, 65, 66, 67, 68, 69, 70, 71, 72, 73, 74, 75, 76, 77, 78, 79, 80, 81, 82, 83, 84, 85, 86, 87, 88, 96, 97, 98, 99, 100, 101, 102, 103, 104, 105, 119, 120, 121, 122, 123, 124, 125, 126, 106, 107, 108, 109, 110, 127, 128, 129, 130] (by decide +kernel) (by decide +kernel)
set_option maxRecDepth 20000 in
theorem gX6_count_X6_standing : GoodIn wsX6_count (wsV RX6 120 RX6 yX6_standing wsX6_standing) := goodIn_app (goodIn_of _ (by decide +kernel)) ggX6_count_X6_standing
set_option maxRecDepth 20000 in
theorem ggX6_count_X6_certain : GoodIn wsX6_count wsX6_certain := goodIn_r _ [92, 15, 1, 2, 93, 94, 16, 17, 18, 19, 20, 21, 22, 23, 24, 25, 26, 27, 28, 29, 30, 31, 32, 33, 34, 35, 36, 37, 38, 39, 40, 41, 42, 95, 48, 49, 50, 51, 52, 53, 54, 55, 56, 57, 58, 59, 60, 61, 62, 63, 64, 65, 66, 67, 68, 69, 70, 71, 72, 73, 74, 75, 76, 77, 78, 79, 80, 81, 82, 83, 84, 85, 86, 87, 88, 96, 97, 98, 99, 100, 101, 102, 103, 104, 105, 106, 107, 108, 109, 110, 119, 120, 121, 122, 123, 124, 125, 126, 127, 128, 129, 130] (by decide +kernel) (by decide +kernel)
set_option maxRecDepth 20000 in
theorem gX6_count_X6_certain : GoodIn wsX6_count (wsV RX6 201 RX6 yX6_certain wsX6_certain) := goodIn_app (goodIn_of _ (by decide +kernel)) ggX6_count_X6_certain
theorem dX6_count_0 : decode cX6_count 0 = .ok (.iload_n 1, 1) := by decide +kernel
theorem dX6_count_1 : decode cX6_count 1 = .ok (.tableswitch 109 0 7 #[47, 55, 63, 71, 79, 88, 93, 101], 47) := by decide +kernel
theorem dX6_count_48 : decode cX6_count 48 = .ok (.aload_n 0, 1) := by decide +kernel
theorem dX6_count_49 : decode cX6_count 49 = .ok (.getfield 10, 3) := by decide +kernel
theorem dX6_count_52 : decode cX6_count 52 = .ok (.getfield 166, 3) := by decide +kernel
theorem dX6_count_55 : decode cX6_count 55 = .ok (.ireturn, 1) := by decide +kernel
theorem dX6_count_56 : decode cX6_count 56 = .ok (.aload_n 0, 1) := by decide +kernel
theorem dX6_count_57 : decode cX6_count 57 = .ok (.getfield 10, 3) := by decide +kernel
theorem dX6_count_60 : decode cX6_count 60 = .ok (.getfield 110, 3) := by decide +kernel
theorem dX6_count_63 : decode cX6_count 63 = .ok (.ireturn, 1) := by decide +kernel
theorem dX6_count_64 : decode cX6_count 64 = .ok (.aload_n 0, 1) := by decide +kernel
theorem dX6_count_65 : decode cX6_count 65 = .ok (.getfield 10, 3) := by decide +kernel
theorem dX6_count_68 : decode cX6_count 68 = .ok (.getfield 114, 3) := by decide +kernel
theorem dX6_count_71 : decode cX6_count 71 = .ok (.ireturn, 1) := by decide +kernel
theorem dX6_count_72 : decode cX6_count 72 = .ok (.aload_n 0, 1) := by decide +kernel
theorem dX6_count_73 : decode cX6_count 73 = .ok (.getfield 10, 3) := by decide +kernel
theorem dX6_count_76 : decode cX6_count 76 = .ok (.getfield 117, 3) := by decide +kernel
theorem dX6_count_79 : decode cX6_count 79 = .ok (.ireturn, 1) := by decide +kernel
theorem dX6_count_80 : decode cX6_count 80 = .ok (.aload_n 0, 1) := by decide +kernel
theorem dX6_count_81 : decode cX6_count 81 = .ok (.aload_n 0, 1) := by decide +kernel
theorem dX6_count_82 : decode cX6_count 82 = .ok (.getfield 10, 3) := by decide +kernel
theorem dX6_count_85 : decode cX6_count 85 = .ok (.invokevirtual 120, 3) := by decide +kernel
theorem dX6_count_88 : decode cX6_count 88 = .ok (.ireturn, 1) := by decide +kernel
theorem dX6_count_89 : decode cX6_count 89 = .ok (.aload_n 0, 1) := by decide +kernel
theorem dX6_count_90 : decode cX6_count 90 = .ok (.invokevirtual 201, 3) := by decide +kernel
theorem dX6_count_93 : decode cX6_count 93 = .ok (.ireturn, 1) := by decide +kernel
theorem dX6_count_94 : decode cX6_count 94 = .ok (.aload_n 0, 1) := by decide +kernel
theorem dX6_count_95 : decode cX6_count 95 = .ok (.getfield 37, 3) := by decide +kernel
theorem dX6_count_98 : decode cX6_count 98 = .ok (.getfield 204, 3) := by decide +kernel
theorem dX6_count_101 : decode cX6_count 101 = .ok (.ireturn, 1) := by decide +kernel
theorem dX6_count_102 : decode cX6_count 102 = .ok (.aload_n 0, 1) := by decide +kernel
theorem dX6_count_103 : decode cX6_count 103 = .ok (.getfield 22, 3) := by decide +kernel
theorem dX6_count_106 : decode cX6_count 106 = .ok (.getfield 127, 3) := by decide +kernel
theorem dX6_count_109 : decode cX6_count 109 = .ok (.ireturn, 1) := by decide +kernel
theorem dX6_count_110 : decode cX6_count 110 = .ok (.iconst (-1), 1) := by decide +kernel
theorem dX6_count_111 : decode cX6_count 111 = .ok (.ireturn, 1) := by decide +kernel
theorem dX6_isImage_0 : decode cX6_isImage 0 = .ok (.iload_n 0, 1) := by decide +kernel
theorem dX6_isImage_1 : decode cX6_isImage 1 = .ok (.ifCond .lt 12, 3) := by decide +kernel
theorem dX6_isImage_4 : decode cX6_isImage 4 = .ok (.iload_n 0, 1) := by decide +kernel
theorem dX6_isImage_5 : decode cX6_isImage 5 = .ok (.iconst 2, 1) := by decide +kernel
theorem dX6_isImage_6 : decode cX6_isImage 6 = .ok (.if_icmp .ge 7, 3) := by decide +kernel
theorem dX6_isImage_9 : decode cX6_isImage 9 = .ok (.iconst 1, 1) := by decide +kernel
theorem dX6_isImage_10 : decode cX6_isImage 10 = .ok (.goto 4, 3) := by decide +kernel
theorem dX6_isImage_13 : decode cX6_isImage 13 = .ok (.iconst 0, 1) := by decide +kernel
theorem dX6_isImage_14 : decode cX6_isImage 14 = .ok (.ireturn, 1) := by decide +kernel
theorem dX6_isTime_0 : decode cX6_isTime 0 = .ok (.iload_n 0, 1) := by decide +kernel
theorem dX6_isTime_1 : decode cX6_isTime 1 = .ok (.ifCond .lt 14, 3) := by decide +kernel
theorem dX6_isTime_4 : decode cX6_isTime 4 = .ok (.iload_n 0, 1) := by decide +kernel
theorem dX6_isTime_5 : decode cX6_isTime 5 = .ok (.sipush 2999, 3) := by decide +kernel
theorem dX6_isTime_8 : decode cX6_isTime 8 = .ok (.if_icmp .gt 7, 3) := by decide +kernel
theorem dX6_isTime_11 : decode cX6_isTime 11 = .ok (.iconst 1, 1) := by decide +kernel
theorem dX6_isTime_12 : decode cX6_isTime 12 = .ok (.goto 4, 3) := by decide +kernel
theorem dX6_isTime_15 : decode cX6_isTime 15 = .ok (.iconst 0, 1) := by decide +kernel
theorem dX6_isTime_16 : decode cX6_isTime 16 = .ok (.ireturn, 1) := by decide +kernel
theorem dX6_isLow_0 : decode cX6_isLow 0 = .ok (.iload_n 0, 1) := by decide +kernel
theorem dX6_isLow_1 : decode cX6_isLow 1 = .ok (.bipush 10, 2) := by decide +kernel
theorem dX6_isLow_3 : decode cX6_isLow 3 = .ok (.if_icmp .lt 14, 3) := by decide +kernel
theorem dX6_isLow_6 : decode cX6_isLow 6 = .ok (.iload_n 0, 1) := by decide +kernel
theorem dX6_isLow_7 : decode cX6_isLow 7 = .ok (.sipush 999, 3) := by decide +kernel
theorem dX6_isLow_10 : decode cX6_isLow 10 = .ok (.if_icmp .gt 7, 3) := by decide +kernel
theorem dX6_isLow_13 : decode cX6_isLow 13 = .ok (.iconst 1, 1) := by decide +kernel
theorem dX6_isLow_14 : decode cX6_isLow 14 = .ok (.goto 4, 3) := by decide +kernel
theorem dX6_isLow_17 : decode cX6_isLow 17 = .ok (.iconst 0, 1) := by decide +kernel
theorem dX6_isLow_18 : decode cX6_isLow 18 = .ok (.ireturn, 1) := by decide +kernel
theorem dX6_isHigh_0 : decode cX6_isHigh 0 = .ok (.iload_n 1, 1) := by decide +kernel
theorem dX6_isHigh_1 : decode cX6_isHigh 1 = .ok (.iload_n 0, 1) := by decide +kernel
theorem dX6_isHigh_2 : decode cX6_isHigh 2 = .ok (.if_icmp .lt 14, 3) := by decide +kernel
theorem dX6_isHigh_5 : decode cX6_isHigh 5 = .ok (.iload_n 1, 1) := by decide +kernel
theorem dX6_isHigh_6 : decode cX6_isHigh 6 = .ok (.sipush 999, 3) := by decide +kernel
theorem dX6_isHigh_9 : decode cX6_isHigh 9 = .ok (.if_icmp .gt 7, 3) := by decide +kernel
theorem dX6_isHigh_12 : decode cX6_isHigh 12 = .ok (.iconst 1, 1) := by decide +kernel
theorem dX6_isHigh_13 : decode cX6_isHigh 13 = .ok (.goto 4, 3) := by decide +kernel
theorem dX6_isHigh_16 : decode cX6_isHigh 16 = .ok (.iconst 0, 1) := by decide +kernel
theorem dX6_isHigh_17 : decode cX6_isHigh 17 = .ok (.ireturn, 1) := by decide +kernel
theorem dX6_isSlack_0 : decode cX6_isSlack 0 = .ok (.iload_n 1, 1) := by decide +kernel
theorem dX6_isSlack_1 : decode cX6_isSlack 1 = .ok (.ifCond .lt 20, 3) := by decide +kernel
theorem dX6_isSlack_4 : decode cX6_isSlack 4 = .ok (.iload_n 1, 1) := by decide +kernel
theorem dX6_isSlack_5 : decode cX6_isSlack 5 = .ok (.bipush 99, 2) := by decide +kernel
theorem dX6_isSlack_7 : decode cX6_isSlack 7 = .ok (.if_icmp .gt 14, 3) := by decide +kernel
theorem dX6_isSlack_10 : decode cX6_isSlack 10 = .ok (.iconst 4, 1) := by decide +kernel
theorem dX6_isSlack_11 : decode cX6_isSlack 11 = .ok (.iload_n 1, 1) := by decide +kernel
theorem dX6_isSlack_12 : decode cX6_isSlack 12 = .ok (.imul, 1) := by decide +kernel
theorem dX6_isSlack_13 : decode cX6_isSlack 13 = .ok (.iload_n 0, 1) := by decide +kernel
theorem dX6_isSlack_14 : decode cX6_isSlack 14 = .ok (.if_icmp .ge 7, 3) := by decide +kernel
theorem dX6_isSlack_17 : decode cX6_isSlack 17 = .ok (.iconst 1, 1) := by decide +kernel
theorem dX6_isSlack_18 : decode cX6_isSlack 18 = .ok (.goto 4, 3) := by decide +kernel
theorem dX6_isSlack_21 : decode cX6_isSlack 21 = .ok (.iconst 0, 1) := by decide +kernel
theorem dX6_isSlack_22 : decode cX6_isSlack 22 = .ok (.ireturn, 1) := by decide +kernel
set_option maxRecDepth 20000 in
theorem ggX6_refusesNew_X6_isTime : GoodIn wsX6_refusesNew wsX6_isTime := goodIn_r _ [6] (by decide +kernel) (by decide +kernel)
set_option maxRecDepth 20000 in
theorem gX6_refusesNew_X6_isTime : GoodIn wsX6_refusesNew (va_wsS RX6 207 yX6_isTime wsX6_isTime) := goodIn_app (goodIn_of _ (by decide +kernel)) ggX6_refusesNew_X6_isTime
set_option maxRecDepth 20000 in
theorem ggX6_refusesNew_X1_hears : GoodIn wsX6_refusesNew wsX1_hears := goodIn_r _ [11, 12, 13, 24, 25, 26, 27, 28] (by decide +kernel) (by decide +kernel)
set_option maxRecDepth 20000 in
theorem gX6_refusesNew_X1_hears : GoodIn wsX6_refusesNew (wsV RX6 210 RX1 yX1_hears wsX1_hears) := goodIn_app (goodIn_of _ (by decide +kernel)) ggX6_refusesNew_X1_hears
theorem dX6_refusesNew_0 : decode cX6_refusesNew 0 = .ok (.iload_n 1, 1) := by decide +kernel
theorem dX6_refusesNew_1 : decode cX6_refusesNew 1 = .ok (.invokestatic 207, 3) := by decide +kernel
theorem dX6_refusesNew_4 : decode cX6_refusesNew 4 = .ok (.ifCond .ne 5, 3) := by decide +kernel
theorem dX6_refusesNew_7 : decode cX6_refusesNew 7 = .ok (.iconst (-1), 1) := by decide +kernel
theorem dX6_refusesNew_8 : decode cX6_refusesNew 8 = .ok (.ireturn, 1) := by decide +kernel
theorem dX6_refusesNew_9 : decode cX6_refusesNew 9 = .ok (.aload_n 0, 1) := by decide +kernel
theorem dX6_refusesNew_10 : decode cX6_refusesNew 10 = .ok (.getfield 10, 3) := by decide +kernel
theorem dX6_refusesNew_13 : decode cX6_refusesNew 13 = .ok (.iload_n 1, 1) := by decide +kernel
theorem dX6_refusesNew_14 : decode cX6_refusesNew 14 = .ok (.invokevirtual 210, 3) := by decide +kernel
theorem dX6_refusesNew_17 : decode cX6_refusesNew 17 = .ok (.ifCond .eq 6, 3) := by decide +kernel
theorem dX6_refusesNew_20 : decode cX6_refusesNew 20 = .ok (.bipush (-2), 2) := by decide +kernel
theorem dX6_refusesNew_22 : decode cX6_refusesNew 22 = .ok (.ireturn, 1) := by decide +kernel
theorem dX6_refusesNew_23 : decode cX6_refusesNew 23 = .ok (.aload_n 0, 1) := by decide +kernel
theorem dX6_refusesNew_24 : decode cX6_refusesNew 24 = .ok (.getfield 10, 3) := by decide +kernel
theorem dX6_refusesNew_27 : decode cX6_refusesNew 27 = .ok (.getfield 166, 3) := by decide +kernel
theorem dX6_refusesNew_30 : decode cX6_refusesNew 30 = .ok (.bipush 7, 2) := by decide +kernel
theorem dX6_refusesNew_32 : decode cX6_refusesNew 32 = .ok (.if_icmp .lt 8, 3) := by decide +kernel
theorem dX6_refusesNew_35 : decode cX6_refusesNew 35 = .ok (.bipush (-3), 2) := by decide +kernel
theorem dX6_refusesNew_37 : decode cX6_refusesNew 37 = .ok (.goto 4, 3) := by decide +kernel
theorem dX6_refusesNew_40 : decode cX6_refusesNew 40 = .ok (.iconst 0, 1) := by decide +kernel
theorem dX6_refusesNew_41 : decode cX6_refusesNew 41 = .ok (.ireturn, 1) := by decide +kernel
theorem dX6_ofRange_0 : decode cX6_ofRange 0 = .ok (.iload_n 3, 1) := by decide +kernel
theorem dX6_ofRange_1 : decode cX6_ofRange 1 = .ok (.ifCond .ne 5, 3) := by decide +kernel
theorem dX6_ofRange_4 : decode cX6_ofRange 4 = .ok (.iload_n 0, 1) := by decide +kernel
theorem dX6_ofRange_5 : decode cX6_ofRange 5 = .ok (.ireturn, 1) := by decide +kernel
theorem dX6_ofRange_6 : decode cX6_ofRange 6 = .ok (.iload_n 0, 1) := by decide +kernel
theorem dX6_ofRange_7 : decode cX6_ofRange 7 = .ok (.ifCond .gt 6, 3) := by decide +kernel
theorem dX6_ofRange_10 : decode cX6_ofRange 10 = .ok (.bipush (-9), 2) := by decide +kernel
theorem dX6_ofRange_12 : decode cX6_ofRange 12 = .ok (.ireturn, 1) := by decide +kernel
theorem dX6_ofRange_13 : decode cX6_ofRange 13 = .ok (.iload_n 3, 1) := by decide +kernel
theorem dX6_ofRange_14 : decode cX6_ofRange 14 = .ok (.iconst 1, 1) := by decide +kernel
theorem dX6_ofRange_15 : decode cX6_ofRange 15 = .ok (.if_icmp .ne 7, 3) := by decide +kernel
theorem dX6_ofRange_18 : decode cX6_ofRange 18 = .ok (.iload_n 1, 1) := by decide +kernel
theorem dX6_ofRange_19 : decode cX6_ofRange 19 = .ok (.goto 4, 3) := by decide +kernel
theorem dX6_ofRange_22 : decode cX6_ofRange 22 = .ok (.iload_n 2, 1) := by decide +kernel
theorem dX6_ofRange_23 : decode cX6_ofRange 23 = .ok (.ireturn, 1) := by decide +kernel
theorem dX6_power_0 : decode cX6_power 0 = .ok (.iconst 1, 1) := by decide +kernel
theorem dX6_power_1 : decode cX6_power 1 = .ok (.istore_n 2, 1) := by decide +kernel
theorem dX6_power_2 : decode cX6_power 2 = .ok (.iconst 0, 1) := by decide +kernel
theorem dX6_power_3 : decode cX6_power 3 = .ok (.istore_n 3, 1) := by decide +kernel
theorem dX6_power_4 : decode cX6_power 4 = .ok (.iload_n 3, 1) := by decide +kernel
theorem dX6_power_5 : decode cX6_power 5 = .ok (.iload_n 1, 1) := by decide +kernel
theorem dX6_power_6 : decode cX6_power 6 = .ok (.if_icmp .ge 13, 3) := by decide +kernel
theorem dX6_power_9 : decode cX6_power 9 = .ok (.iload_n 2, 1) := by decide +kernel
theorem dX6_power_10 : decode cX6_power 10 = .ok (.iload_n 0, 1) := by decide +kernel
theorem dX6_power_11 : decode cX6_power 11 = .ok (.imul, 1) := by decide +kernel
theorem dX6_power_12 : decode cX6_power 12 = .ok (.istore_n 2, 1) := by decide +kernel
theorem dX6_power_13 : decode cX6_power 13 = .ok (.iinc 3 1, 3) := by decide +kernel
theorem dX6_power_16 : decode cX6_power 16 = .ok (.goto (-12), 3) := by decide +kernel
theorem dX6_power_19 : decode cX6_power 19 = .ok (.iload_n 2, 1) := by decide +kernel
theorem dX6_power_20 : decode cX6_power 20 = .ok (.ireturn, 1) := by decide +kernel
set_option maxRecDepth 20000 in
theorem ggX6_standing_X2_begin : GoodIn wsX6_standing wsX2_begin := goodIn_r _ [7, 8, 9, 10, 11, 12, 13, 14, 15, 16, 17, 18, 19, 20, 21, 22, 23, 24, 25, 26, 27, 28, 85, 86, 87, 88, 89, 90, 91, 92, 93, 94, 95, 96, 97, 98, 99, 100, 101] (by decide +kernel) (by decide +kernel)
set_option maxRecDepth 20000 in
theorem gX6_standing_X2_begin : GoodIn wsX6_standing (wsV RX6 167 RX2 yX2_begin wsX2_begin) := goodIn_app (goodIn_of _ (by decide +kernel)) ggX6_standing_X2_begin
set_option maxRecDepth 20000 in
theorem ggX6_standing_X2_tally : GoodIn wsX6_standing wsX2_tally := goodIn_r _ [32, 33, 34, 35, 6, 36, 15, 11, 14, 37, 38, 39, 40, 8, 17, 13, 16, 41, 42, 43, 44, 45, 46, 47, 48, 23, 49, 27, 28, 50, 51, 52, 53, 25, 26, 54, 55, 56, 57, 58, 59, 60, 61, 62, 63, 64, 65, 66, 67, 68, 69, 70, 71, 72, 73, 74, 85, 86, 87, 88, 89, 90, 91, 92, 98, 99, 100, 101] (by decide +kernel) (by decide +kernel)
set_option maxRecDepth 20000 in
theorem gX6_standing_X2_tally : GoodIn wsX6_standing (wsV RX6 213 RX2 yX2_tally wsX2_tally) := goodIn_app (goodIn_of _ (by decide +kernel)) ggX6_standing_X2_tally
theorem dX6_standing_0 : decode cX6_standing 0 = .ok (.aload_n 0, 1) := by decide +kernel
theorem dX6_standing_1 : decode cX6_standing 1 = .ok (.getfield 44, 3) := by decide +kernel
theorem dX6_standing_4 : decode cX6_standing 4 = .ok (.aload_n 1, 1) := by decide +kernel
theorem dX6_standing_5 : decode cX6_standing 5 = .ok (.invokevirtual 167, 3) := by decide +kernel
theorem dX6_standing_8 : decode cX6_standing 8 = .ok (.aload_n 0, 1) := by decide +kernel
theorem dX6_standing_9 : decode cX6_standing 9 = .ok (.getfield 44, 3) := by decide +kernel
theorem dX6_standing_12 : decode cX6_standing 12 = .ok (.ldc 170, 2) := by decide +kernel
theorem dX6_standing_14 : decode cX6_standing 14 = .ok (.invokevirtual 213, 3) := by decide +kernel
theorem dX6_standing_17 : decode cX6_standing 17 = .ok (.ireturn, 1) := by decide +kernel
set_option maxRecDepth 20000 in
theorem ggX6_goesTo_X2_begin : GoodIn wsX6_goesTo wsX2_begin := goodIn_r _ [8, 9, 10, 11, 12, 13, 14, 15, 16, 17, 18, 19, 20, 21, 22, 23, 24, 25, 26, 27, 28, 29, 86, 87, 88, 89, 90, 91, 92, 93, 94, 95, 96, 97, 98, 99, 100, 101, 102] (by decide +kernel) (by decide +kernel)
set_option maxRecDepth 20000 in
theorem gX6_goesTo_X2_begin : GoodIn wsX6_goesTo (wsV RX6 167 RX2 yX2_begin wsX2_begin) := goodIn_app (goodIn_of _ (by decide +kernel)) ggX6_goesTo_X2_begin
set_option maxRecDepth 20000 in
theorem ggX6_goesTo_X2_tally : GoodIn wsX6_goesTo wsX2_tally := goodIn_r _ [33, 34, 35, 36, 7, 37, 16, 12, 15, 38, 39, 40, 41, 9, 18, 14, 17, 42, 43, 44, 45, 46, 47, 48, 49, 24, 50, 28, 29, 51, 52, 53, 54, 26, 27, 55, 56, 57, 58, 59, 60, 61, 62, 63, 64, 65, 66, 67, 68, 69, 70, 71, 72, 73, 74, 75, 86, 87, 88, 89, 90, 91, 92, 93, 99, 100, 101, 102] (by decide +kernel) (by decide +kernel)
set_option maxRecDepth 20000 in
theorem gX6_goesTo_X2_tally : GoodIn wsX6_goesTo (wsV RX6 213 RX2 yX2_tally wsX2_tally) := goodIn_app (goodIn_of _ (by decide +kernel)) ggX6_goesTo_X2_tally
theorem dX6_goesTo_0 : decode cX6_goesTo 0 = .ok (.iload_n 1, 1) := by decide +kernel
theorem dX6_goesTo_1 : decode cX6_goesTo 1 = .ok (.ifCond .lt 9, 3) := by decide +kernel
theorem dX6_goesTo_4 : decode cX6_goesTo 4 = .ok (.iload_n 1, 1) := by decide +kernel
theorem dX6_goesTo_5 : decode cX6_goesTo 5 = .ok (.ldc 170, 2) := by decide +kernel
theorem dX6_goesTo_7 : decode cX6_goesTo 7 = .ok (.if_icmp .lt 5, 3) := by decide +kernel
theorem dX6_goesTo_10 : decode cX6_goesTo 10 = .ok (.iconst 0, 1) := by decide +kernel
theorem dX6_goesTo_11 : decode cX6_goesTo 11 = .ok (.ireturn, 1) := by decide +kernel
theorem dX6_goesTo_12 : decode cX6_goesTo 12 = .ok (.aload_n 0, 1) := by decide +kernel
theorem dX6_goesTo_13 : decode cX6_goesTo 13 = .ok (.getfield 44, 3) := by decide +kernel
theorem dX6_goesTo_16 : decode cX6_goesTo 16 = .ok (.aload_n 0, 1) := by decide +kernel
theorem dX6_goesTo_17 : decode cX6_goesTo 17 = .ok (.getfield 10, 3) := by decide +kernel
theorem dX6_goesTo_20 : decode cX6_goesTo 20 = .ok (.invokevirtual 167, 3) := by decide +kernel
theorem dX6_goesTo_23 : decode cX6_goesTo 23 = .ok (.aload_n 0, 1) := by decide +kernel
theorem dX6_goesTo_24 : decode cX6_goesTo 24 = .ok (.getfield 44, 3) := by decide +kernel
theorem dX6_goesTo_27 : decode cX6_goesTo 27 = .ok (.iload_n 1, 1) := by decide +kernel
theorem dX6_goesTo_28 : decode cX6_goesTo 28 = .ok (.iconst 1, 1) := by decide +kernel
theorem dX6_goesTo_29 : decode cX6_goesTo 29 = .ok (.iadd, 1) := by decide +kernel
theorem dX6_goesTo_30 : decode cX6_goesTo 30 = .ok (.invokevirtual 213, 3) := by decide +kernel
theorem dX6_goesTo_33 : decode cX6_goesTo 33 = .ok (.iload_n 1, 1) := by decide +kernel
theorem dX6_goesTo_34 : decode cX6_goesTo 34 = .ok (.iconst 1, 1) := by decide +kernel
theorem dX6_goesTo_35 : decode cX6_goesTo 35 = .ok (.iadd, 1) := by decide +kernel
theorem dX6_goesTo_36 : decode cX6_goesTo 36 = .ok (.if_icmp .ne 7, 3) := by decide +kernel
theorem dX6_goesTo_39 : decode cX6_goesTo 39 = .ok (.iconst 1, 1) := by decide +kernel
theorem dX6_goesTo_40 : decode cX6_goesTo 40 = .ok (.goto 4, 3) := by decide +kernel
theorem dX6_goesTo_43 : decode cX6_goesTo 43 = .ok (.iconst 0, 1) := by decide +kernel
theorem dX6_goesTo_44 : decode cX6_goesTo 44 = .ok (.ireturn, 1) := by decide +kernel
set_option maxRecDepth 20000 in
theorem ggX6_certain_X2_begin : GoodIn wsX6_certain wsX2_begin := goodIn_r _ [11, 12, 13, 14, 15, 16, 17, 18, 19, 20, 21, 22, 23, 24, 25, 26, 27, 28, 29, 30, 31, 32, 90, 91, 92, 93, 94, 95, 96, 97, 85, 86, 87, 88, 89, 98, 99, 100, 101] (by decide +kernel) (by decide +kernel)
set_option maxRecDepth 20000 in
theorem gX6_certain_X2_begin : GoodIn wsX6_certain (wsV RX6 167 RX2 yX2_begin wsX2_begin) := goodIn_app (goodIn_of _ (by decide +kernel)) ggX6_certain_X2_begin
set_option maxRecDepth 20000 in
theorem ggX6_certain_X2_next : GoodIn wsX6_certain wsX2_next := goodIn_r _ [36, 19, 15, 18, 37, 38, 39, 10, 40, 12, 21, 17, 20, 41, 42, 43, 44, 45, 46, 47, 48, 27, 49, 31, 32, 50, 51, 52, 53, 29, 30, 54, 55, 56, 57, 58, 59, 60, 61, 62, 63, 64, 65, 66, 67, 68, 69, 70, 71, 72, 73, 74, 90, 91, 92, 93, 94, 95, 96, 97, 98, 99, 100, 101] (by decide +kernel) (by decide +kernel)
set_option maxRecDepth 20000 in
theorem gX6_certain_X2_next : GoodIn wsX6_certain (wsV RX6 171 RX2 yX2_next wsX2_next) := goodIn_app (goodIn_of _ (by decide +kernel)) ggX6_certain_X2_next
theorem dX6_certain_0 : decode cX6_certain 0 = .ok (.aload_n 0, 1) := by decide +kernel
theorem dX6_certain_1 : decode cX6_certain 1 = .ok (.getfield 44, 3) := by decide +kernel
theorem dX6_certain_4 : decode cX6_certain 4 = .ok (.aload_n 0, 1) := by decide +kernel
theorem dX6_certain_5 : decode cX6_certain 5 = .ok (.getfield 10, 3) := by decide +kernel
theorem dX6_certain_8 : decode cX6_certain 8 = .ok (.invokevirtual 167, 3) := by decide +kernel
theorem dX6_certain_11 : decode cX6_certain 11 = .ok (.aload_n 0, 1) := by decide +kernel
theorem dX6_certain_12 : decode cX6_certain 12 = .ok (.getfield 44, 3) := by decide +kernel
theorem dX6_certain_15 : decode cX6_certain 15 = .ok (.invokevirtual 171, 3) := by decide +kernel
theorem dX6_certain_18 : decode cX6_certain 18 = .ok (.ifCond .ne 5, 3) := by decide +kernel
theorem dX6_certain_21 : decode cX6_certain 21 = .ok (.iconst 0, 1) := by decide +kernel
theorem dX6_certain_22 : decode cX6_certain 22 = .ok (.ireturn, 1) := by decide +kernel
theorem dX6_certain_23 : decode cX6_certain 23 = .ok (.iconst 1, 1) := by decide +kernel
theorem dX6_certain_24 : decode cX6_certain 24 = .ok (.aload_n 0, 1) := by decide +kernel
theorem dX6_certain_25 : decode cX6_certain 25 = .ok (.getfield 10, 3) := by decide +kernel
theorem dX6_certain_28 : decode cX6_certain 28 = .ok (.getfield 166, 3) := by decide +kernel
theorem dX6_certain_31 : decode cX6_certain 31 = .ok (.ishl, 1) := by decide +kernel
theorem dX6_certain_32 : decode cX6_certain 32 = .ok (.iconst 1, 1) := by decide +kernel
theorem dX6_certain_33 : decode cX6_certain 33 = .ok (.isub, 1) := by decide +kernel
theorem dX6_certain_34 : decode cX6_certain 34 = .ok (.istore_n 1, 1) := by decide +kernel
theorem dX6_certain_35 : decode cX6_certain 35 = .ok (.iconst 0, 1) := by decide +kernel
theorem dX6_certain_36 : decode cX6_certain 36 = .ok (.istore_n 2, 1) := by decide +kernel
theorem dX6_certain_37 : decode cX6_certain 37 = .ok (.iload_n 2, 1) := by decide +kernel
theorem dX6_certain_38 : decode cX6_certain 38 = .ok (.aload_n 0, 1) := by decide +kernel
theorem dX6_certain_39 : decode cX6_certain 39 = .ok (.getfield 10, 3) := by decide +kernel
theorem dX6_certain_42 : decode cX6_certain 42 = .ok (.getfield 166, 3) := by decide +kernel
theorem dX6_certain_45 : decode cX6_certain 45 = .ok (.if_icmp .ge 24, 3) := by decide +kernel
theorem dX6_certain_48 : decode cX6_certain 48 = .ok (.aload_n 0, 1) := by decide +kernel
theorem dX6_certain_49 : decode cX6_certain 49 = .ok (.getfield 55, 3) := by decide +kernel
theorem dX6_certain_52 : decode cX6_certain 52 = .ok (.iload_n 2, 1) := by decide +kernel
theorem dX6_certain_53 : decode cX6_certain 53 = .ok (.aload_n 0, 1) := by decide +kernel
theorem dX6_certain_54 : decode cX6_certain 54 = .ok (.getfield 44, 3) := by decide +kernel
theorem dX6_certain_57 : decode cX6_certain 57 = .ok (.getfield 160, 3) := by decide +kernel
theorem dX6_certain_60 : decode cX6_certain 60 = .ok (.iload_n 2, 1) := by decide +kernel
theorem dX6_certain_61 : decode cX6_certain 61 = .ok (.iaload, 1) := by decide +kernel
theorem dX6_certain_62 : decode cX6_certain 62 = .ok (.iastore, 1) := by decide +kernel
theorem dX6_certain_63 : decode cX6_certain 63 = .ok (.iinc 2 1, 3) := by decide +kernel
theorem dX6_certain_66 : decode cX6_certain 66 = .ok (.goto (-29), 3) := by decide +kernel
theorem dX6_certain_69 : decode cX6_certain 69 = .ok (.iconst 0, 1) := by decide +kernel
theorem dX6_certain_70 : decode cX6_certain 70 = .ok (.istore_n 2, 1) := by decide +kernel
theorem dX6_certain_71 : decode cX6_certain 71 = .ok (.iload_n 2, 1) := by decide +kernel
theorem dX6_certain_72 : decode cX6_certain 72 = .ok (.ldc 170, 2) := by decide +kernel
theorem dX6_certain_74 : decode cX6_certain 74 = .ok (.if_icmp .ge 64, 3) := by decide +kernel
theorem dX6_certain_77 : decode cX6_certain 77 = .ok (.aload_n 0, 1) := by decide +kernel
theorem dX6_certain_78 : decode cX6_certain 78 = .ok (.getfield 44, 3) := by decide +kernel
theorem dX6_certain_81 : decode cX6_certain 81 = .ok (.invokevirtual 171, 3) := by decide +kernel
theorem dX6_certain_84 : decode cX6_certain 84 = .ok (.ifCond .eq 54, 3) := by decide +kernel
theorem dX6_certain_87 : decode cX6_certain 87 = .ok (.iconst 0, 1) := by decide +kernel
theorem dX6_certain_88 : decode cX6_certain 88 = .ok (.istore_n 3, 1) := by decide +kernel
theorem dX6_certain_89 : decode cX6_certain 89 = .ok (.iload_n 3, 1) := by decide +kernel
theorem dX6_certain_90 : decode cX6_certain 90 = .ok (.aload_n 0, 1) := by decide +kernel
theorem dX6_certain_91 : decode cX6_certain 91 = .ok (.getfield 10, 3) := by decide +kernel
theorem dX6_certain_94 : decode cX6_certain 94 = .ok (.getfield 166, 3) := by decide +kernel
theorem dX6_certain_97 : decode cX6_certain 97 = .ok (.if_icmp .ge 35, 3) := by decide +kernel
theorem dX6_certain_100 : decode cX6_certain 100 = .ok (.aload_n 0, 1) := by decide +kernel
theorem dX6_certain_101 : decode cX6_certain 101 = .ok (.getfield 44, 3) := by decide +kernel
theorem dX6_certain_104 : decode cX6_certain 104 = .ok (.getfield 160, 3) := by decide +kernel
theorem dX6_certain_107 : decode cX6_certain 107 = .ok (.iload_n 3, 1) := by decide +kernel
theorem dX6_certain_108 : decode cX6_certain 108 = .ok (.iaload, 1) := by decide +kernel
theorem dX6_certain_109 : decode cX6_certain 109 = .ok (.aload_n 0, 1) := by decide +kernel
theorem dX6_certain_110 : decode cX6_certain 110 = .ok (.getfield 55, 3) := by decide +kernel
theorem dX6_certain_113 : decode cX6_certain 113 = .ok (.iload_n 3, 1) := by decide +kernel
theorem dX6_certain_114 : decode cX6_certain 114 = .ok (.iaload, 1) := by decide +kernel
theorem dX6_certain_115 : decode cX6_certain 115 = .ok (.if_icmp .eq 11, 3) := by decide +kernel
theorem dX6_certain_118 : decode cX6_certain 118 = .ok (.iload_n 1, 1) := by decide +kernel
theorem dX6_certain_119 : decode cX6_certain 119 = .ok (.iconst 1, 1) := by decide +kernel
theorem dX6_certain_120 : decode cX6_certain 120 = .ok (.iload_n 3, 1) := by decide +kernel
theorem dX6_certain_121 : decode cX6_certain 121 = .ok (.ishl, 1) := by decide +kernel
theorem dX6_certain_122 : decode cX6_certain 122 = .ok (.iconst (-1), 1) := by decide +kernel
theorem dX6_certain_123 : decode cX6_certain 123 = .ok (.ixor, 1) := by decide +kernel
theorem dX6_certain_124 : decode cX6_certain 124 = .ok (.iand, 1) := by decide +kernel
theorem dX6_certain_125 : decode cX6_certain 125 = .ok (.istore_n 1, 1) := by decide +kernel
theorem dX6_certain_126 : decode cX6_certain 126 = .ok (.iinc 3 1, 3) := by decide +kernel
theorem dX6_certain_129 : decode cX6_certain 129 = .ok (.goto (-40), 3) := by decide +kernel
theorem dX6_certain_132 : decode cX6_certain 132 = .ok (.iinc 2 1, 3) := by decide +kernel
theorem dX6_certain_135 : decode cX6_certain 135 = .ok (.goto (-64), 3) := by decide +kernel
theorem dX6_certain_138 : decode cX6_certain 138 = .ok (.iload_n 1, 1) := by decide +kernel
theorem dX6_certain_139 : decode cX6_certain 139 = .ok (.ireturn, 1) := by decide +kernel
set_option maxRecDepth 20000 in
theorem ggX6_tellLeftBy_X2_begin : GoodIn wsX6_tellLeftBy wsX2_begin := goodIn_r _ [9, 10, 11, 12, 13, 14, 15, 16, 17, 18, 19, 20, 21, 22, 23, 24, 25, 26, 27, 28, 29, 30, 87, 88, 89, 90, 91, 92, 93, 94, 95, 96, 97, 98, 99, 100, 101, 102, 103] (by decide +kernel) (by decide +kernel)
set_option maxRecDepth 20000 in
theorem gX6_tellLeftBy_X2_begin : GoodIn wsX6_tellLeftBy (wsV RX6 167 RX2 yX2_begin wsX2_begin) := goodIn_app (goodIn_of _ (by decide +kernel)) ggX6_tellLeftBy_X2_begin
set_option maxRecDepth 20000 in
theorem ggX6_tellLeftBy_X2_next : GoodIn wsX6_tellLeftBy wsX2_next := goodIn_r _ [34, 17, 13, 16, 35, 36, 37, 8, 38, 10, 19, 15, 18, 39, 40, 41, 42, 43, 44, 45, 46, 25, 47, 29, 30, 48, 49, 50, 51, 27, 28, 52, 53, 54, 55, 56, 57, 58, 59, 60, 61, 62, 63, 64, 65, 66, 67, 68, 69, 70, 71, 72, 87, 88, 89, 90, 91, 92, 93, 94, 100, 101, 102, 103] (by decide +kernel) (by decide +kernel)
set_option maxRecDepth 20000 in
theorem gX6_tellLeftBy_X2_next : GoodIn wsX6_tellLeftBy (wsV RX6 171 RX2 yX2_next wsX2_next) := goodIn_app (goodIn_of _ (by decide +kernel)) ggX6_tellLeftBy_X2_next
set_option maxRecDepth 20000 in
theorem ggX6_tellLeftBy_X2_further : GoodIn wsX6_tellLeftBy wsX2_further := goodIn_r _ [76, 13, 10, 18, 43, 35, 36, 37, 8, 38, 19, 15, 39, 40, 41, 42, 44, 45, 46, 25, 47, 29, 30, 48, 49, 50, 51, 27, 28, 57, 58, 59, 60, 61, 62, 63, 64, 65, 66, 67, 68, 69, 70, 71, 72, 87, 88, 89, 90, 91, 92, 93, 94, 100, 101, 102, 103] (by decide +kernel) (by decide +kernel)
set_option maxRecDepth 20000 in
theorem gX6_tellLeftBy_X2_further : GoodIn wsX6_tellLeftBy (wsV RX6 216 RX2 yX2_further wsX2_further) := goodIn_app (goodIn_of _ (by decide +kernel)) ggX6_tellLeftBy_X2_further
theorem dX6_tellLeftBy_0 : decode cX6_tellLeftBy 0 = .ok (.iconst 0, 1) := by decide +kernel
theorem dX6_tellLeftBy_1 : decode cX6_tellLeftBy 1 = .ok (.istore_n 3, 1) := by decide +kernel
theorem dX6_tellLeftBy_2 : decode cX6_tellLeftBy 2 = .ok (.iload_n 3, 1) := by decide +kernel
theorem dX6_tellLeftBy_3 : decode cX6_tellLeftBy 3 = .ok (.bipush 100, 2) := by decide +kernel
theorem dX6_tellLeftBy_5 : decode cX6_tellLeftBy 5 = .ok (.if_icmp .ge 16, 3) := by decide +kernel
theorem dX6_tellLeftBy_8 : decode cX6_tellLeftBy 8 = .ok (.aload_n 0, 1) := by decide +kernel
theorem dX6_tellLeftBy_9 : decode cX6_tellLeftBy 9 = .ok (.getfield 59, 3) := by decide +kernel
theorem dX6_tellLeftBy_12 : decode cX6_tellLeftBy 12 = .ok (.iload_n 3, 1) := by decide +kernel
theorem dX6_tellLeftBy_13 : decode cX6_tellLeftBy 13 = .ok (.iconst 0, 1) := by decide +kernel
theorem dX6_tellLeftBy_14 : decode cX6_tellLeftBy 14 = .ok (.iastore, 1) := by decide +kernel
theorem dX6_tellLeftBy_15 : decode cX6_tellLeftBy 15 = .ok (.iinc 3 1, 3) := by decide +kernel
theorem dX6_tellLeftBy_18 : decode cX6_tellLeftBy 18 = .ok (.goto (-16), 3) := by decide +kernel
theorem dX6_tellLeftBy_21 : decode cX6_tellLeftBy 21 = .ok (.aload_n 0, 1) := by decide +kernel
theorem dX6_tellLeftBy_22 : decode cX6_tellLeftBy 22 = .ok (.getfield 44, 3) := by decide +kernel
theorem dX6_tellLeftBy_25 : decode cX6_tellLeftBy 25 = .ok (.aload_n 0, 1) := by decide +kernel
theorem dX6_tellLeftBy_26 : decode cX6_tellLeftBy 26 = .ok (.getfield 10, 3) := by decide +kernel
theorem dX6_tellLeftBy_29 : decode cX6_tellLeftBy 29 = .ok (.invokevirtual 167, 3) := by decide +kernel
theorem dX6_tellLeftBy_32 : decode cX6_tellLeftBy 32 = .ok (.iconst 0, 1) := by decide +kernel
theorem dX6_tellLeftBy_33 : decode cX6_tellLeftBy 33 = .ok (.istore_n 3, 1) := by decide +kernel
theorem dX6_tellLeftBy_34 : decode cX6_tellLeftBy 34 = .ok (.iload_n 3, 1) := by decide +kernel
theorem dX6_tellLeftBy_35 : decode cX6_tellLeftBy 35 = .ok (.ldc 170, 2) := by decide +kernel
theorem dX6_tellLeftBy_37 : decode cX6_tellLeftBy 37 = .ok (.if_icmp .ge 62, 3) := by decide +kernel
theorem dX6_tellLeftBy_40 : decode cX6_tellLeftBy 40 = .ok (.aload_n 0, 1) := by decide +kernel
theorem dX6_tellLeftBy_41 : decode cX6_tellLeftBy 41 = .ok (.getfield 44, 3) := by decide +kernel
theorem dX6_tellLeftBy_44 : decode cX6_tellLeftBy 44 = .ok (.invokevirtual 171, 3) := by decide +kernel
theorem dX6_tellLeftBy_47 : decode cX6_tellLeftBy 47 = .ok (.ifCond .eq 52, 3) := by decide +kernel
theorem dX6_tellLeftBy_50 : decode cX6_tellLeftBy 50 = .ok (.iconst 0, 1) := by decide +kernel
theorem dX6_tellLeftBy_51 : decode cX6_tellLeftBy 51 = .ok (.istore 4, 2) := by decide +kernel
theorem dX6_tellLeftBy_53 : decode cX6_tellLeftBy 53 = .ok (.iload 4, 2) := by decide +kernel
theorem dX6_tellLeftBy_55 : decode cX6_tellLeftBy 55 = .ok (.iload_n 2, 1) := by decide +kernel
theorem dX6_tellLeftBy_56 : decode cX6_tellLeftBy 56 = .ok (.if_icmp .ge 37, 3) := by decide +kernel
theorem dX6_tellLeftBy_59 : decode cX6_tellLeftBy 59 = .ok (.iload 4, 2) := by decide +kernel
theorem dX6_tellLeftBy_61 : decode cX6_tellLeftBy 61 = .ok (.bipush 100, 2) := by decide +kernel
theorem dX6_tellLeftBy_63 : decode cX6_tellLeftBy 63 = .ok (.if_icmp .ge 30, 3) := by decide +kernel
theorem dX6_tellLeftBy_66 : decode cX6_tellLeftBy 66 = .ok (.aload_n 0, 1) := by decide +kernel
theorem dX6_tellLeftBy_67 : decode cX6_tellLeftBy 67 = .ok (.getfield 59, 3) := by decide +kernel
theorem dX6_tellLeftBy_70 : decode cX6_tellLeftBy 70 = .ok (.iload 4, 2) := by decide +kernel
theorem dX6_tellLeftBy_72 : decode cX6_tellLeftBy 72 = .ok (.dup2, 1) := by decide +kernel
theorem dX6_tellLeftBy_73 : decode cX6_tellLeftBy 73 = .ok (.iaload, 1) := by decide +kernel
theorem dX6_tellLeftBy_74 : decode cX6_tellLeftBy 74 = .ok (.aload_n 0, 1) := by decide +kernel
theorem dX6_tellLeftBy_75 : decode cX6_tellLeftBy 75 = .ok (.getfield 44, 3) := by decide +kernel
theorem dX6_tellLeftBy_78 : decode cX6_tellLeftBy 78 = .ok (.iload_n 1, 1) := by decide +kernel
theorem dX6_tellLeftBy_79 : decode cX6_tellLeftBy 79 = .ok (.iload 4, 2) := by decide +kernel
theorem dX6_tellLeftBy_81 : decode cX6_tellLeftBy 81 = .ok (.iadd, 1) := by decide +kernel
theorem dX6_tellLeftBy_82 : decode cX6_tellLeftBy 82 = .ok (.invokevirtual 216, 3) := by decide +kernel
theorem dX6_tellLeftBy_85 : decode cX6_tellLeftBy 85 = .ok (.iadd, 1) := by decide +kernel
theorem dX6_tellLeftBy_86 : decode cX6_tellLeftBy 86 = .ok (.iastore, 1) := by decide +kernel
theorem dX6_tellLeftBy_87 : decode cX6_tellLeftBy 87 = .ok (.iinc 4 1, 3) := by decide +kernel
theorem dX6_tellLeftBy_90 : decode cX6_tellLeftBy 90 = .ok (.goto (-37), 3) := by decide +kernel
theorem dX6_tellLeftBy_93 : decode cX6_tellLeftBy 93 = .ok (.iinc 3 1, 3) := by decide +kernel
theorem dX6_tellLeftBy_96 : decode cX6_tellLeftBy 96 = .ok (.goto (-62), 3) := by decide +kernel
theorem dX6_tellLeftBy_99 : decode cX6_tellLeftBy 99 = .ok (.return_, 1) := by decide +kernel
set_option maxRecDepth 20000 in
theorem ggX6_leavesOne_X1_take : GoodIn wsX6_leavesOne wsX1_take := goodIn_r _ [10, 11, 12, 13, 14, 15, 102, 103, 104, 105, 106] (by decide +kernel) (by decide +kernel)
set_option maxRecDepth 20000 in
theorem gX6_leavesOne_X1_take : GoodIn wsX6_leavesOne (wsV RX6 74 RX1 yX1_take wsX1_take) := goodIn_app (goodIn_of _ (by decide +kernel)) ggX6_leavesOne_X1_take
set_option maxRecDepth 20000 in
theorem ggX6_leavesOne_X1_place : GoodIn wsX6_leavesOne wsX1_place := goodIn_r _ [19, 12, 11, 102, 103, 104, 105, 106] (by decide +kernel) (by decide +kernel)
set_option maxRecDepth 20000 in
theorem gX6_leavesOne_X1_place : GoodIn wsX6_leavesOne (wsV RX6 94 RX1 yX1_place wsX1_place) := goodIn_app (goodIn_of _ (by decide +kernel)) ggX6_leavesOne_X1_place
set_option maxRecDepth 20000 in
theorem ggX6_leavesOne_X2_begin : GoodIn wsX6_leavesOne wsX2_begin := goodIn_r _ [24, 25, 26, 27, 28, 29, 30, 31, 32, 33, 34, 35, 36, 37, 38, 39, 40, 41, 42, 43, 44, 45, 107, 108, 109, 110, 111, 112, 113, 114, 102, 103, 104, 105, 106, 115, 116, 117, 118] (by decide +kernel) (by decide +kernel)
set_option maxRecDepth 20000 in
theorem gX6_leavesOne_X2_begin : GoodIn wsX6_leavesOne (wsV RX6 167 RX2 yX2_begin wsX2_begin) := goodIn_app (goodIn_of _ (by decide +kernel)) ggX6_leavesOne_X2_begin
set_option maxRecDepth 20000 in
theorem ggX6_leavesOne_X2_tally : GoodIn wsX6_leavesOne wsX2_tally := goodIn_r _ [49, 50, 51, 52, 23, 53, 32, 28, 31, 54, 55, 56, 57, 25, 34, 30, 33, 58, 59, 60, 61, 62, 63, 64, 65, 40, 66, 44, 45, 67, 68, 69, 70, 42, 43, 71, 72, 73, 74, 75, 76, 77, 78, 79, 80, 81, 82, 83, 84, 85, 86, 87, 88, 89, 90, 91, 107, 108, 109, 110, 111, 112, 113, 114, 115, 116, 117, 118] (by decide +kernel) (by decide +kernel)
set_option maxRecDepth 20000 in
theorem gX6_leavesOne_X2_tally : GoodIn wsX6_leavesOne (wsV RX6 213 RX2 yX2_tally wsX2_tally) := goodIn_app (goodIn_of _ (by decide +kernel)) ggX6_leavesOne_X2_tally
theorem dX6_leavesOne_0 : decode cX6_leavesOne 0 = .ok (.aload_n 0, 1) := by decide +kernel
theorem dX6_leavesOne_1 : decode cX6_leavesOne 1 = .ok (.getfield 16, 3) := by decide +kernel
theorem dX6_leavesOne_4 : decode cX6_leavesOne 4 = .ok (.aload_n 0, 1) := by decide +kernel
theorem dX6_leavesOne_5 : decode cX6_leavesOne 5 = .ok (.getfield 10, 3) := by decide +kernel
theorem dX6_leavesOne_8 : decode cX6_leavesOne 8 = .ok (.invokevirtual 74, 3) := by decide +kernel
theorem dX6_leavesOne_11 : decode cX6_leavesOne 11 = .ok (.aload_n 0, 1) := by decide +kernel
theorem dX6_leavesOne_12 : decode cX6_leavesOne 12 = .ok (.getfield 16, 3) := by decide +kernel
theorem dX6_leavesOne_15 : decode cX6_leavesOne 15 = .ok (.iconst 0, 1) := by decide +kernel
theorem dX6_leavesOne_16 : decode cX6_leavesOne 16 = .ok (.putfield 166, 3) := by decide +kernel
theorem dX6_leavesOne_19 : decode cX6_leavesOne 19 = .ok (.iconst 0, 1) := by decide +kernel
theorem dX6_leavesOne_20 : decode cX6_leavesOne 20 = .ok (.istore_n 2, 1) := by decide +kernel
theorem dX6_leavesOne_21 : decode cX6_leavesOne 21 = .ok (.iload_n 2, 1) := by decide +kernel
theorem dX6_leavesOne_22 : decode cX6_leavesOne 22 = .ok (.aload_n 0, 1) := by decide +kernel
theorem dX6_leavesOne_23 : decode cX6_leavesOne 23 = .ok (.getfield 10, 3) := by decide +kernel
theorem dX6_leavesOne_26 : decode cX6_leavesOne 26 = .ok (.getfield 166, 3) := by decide +kernel
theorem dX6_leavesOne_29 : decode cX6_leavesOne 29 = .ok (.if_icmp .ge 35, 3) := by decide +kernel
theorem dX6_leavesOne_32 : decode cX6_leavesOne 32 = .ok (.iload_n 1, 1) := by decide +kernel
theorem dX6_leavesOne_33 : decode cX6_leavesOne 33 = .ok (.iload_n 2, 1) := by decide +kernel
theorem dX6_leavesOne_34 : decode cX6_leavesOne 34 = .ok (.ishr, 1) := by decide +kernel
theorem dX6_leavesOne_35 : decode cX6_leavesOne 35 = .ok (.iconst 1, 1) := by decide +kernel
theorem dX6_leavesOne_36 : decode cX6_leavesOne 36 = .ok (.iand, 1) := by decide +kernel
theorem dX6_leavesOne_37 : decode cX6_leavesOne 37 = .ok (.iconst 1, 1) := by decide +kernel
theorem dX6_leavesOne_38 : decode cX6_leavesOne 38 = .ok (.if_icmp .ne 20, 3) := by decide +kernel
theorem dX6_leavesOne_41 : decode cX6_leavesOne 41 = .ok (.aload_n 0, 1) := by decide +kernel
theorem dX6_leavesOne_42 : decode cX6_leavesOne 42 = .ok (.getfield 16, 3) := by decide +kernel
theorem dX6_leavesOne_45 : decode cX6_leavesOne 45 = .ok (.aload_n 0, 1) := by decide +kernel
theorem dX6_leavesOne_46 : decode cX6_leavesOne 46 = .ok (.getfield 10, 3) := by decide +kernel
theorem dX6_leavesOne_49 : decode cX6_leavesOne 49 = .ok (.getfield 85, 3) := by decide +kernel
theorem dX6_leavesOne_52 : decode cX6_leavesOne 52 = .ok (.iload_n 2, 1) := by decide +kernel
theorem dX6_leavesOne_53 : decode cX6_leavesOne 53 = .ok (.iaload, 1) := by decide +kernel
theorem dX6_leavesOne_54 : decode cX6_leavesOne 54 = .ok (.invokevirtual 94, 3) := by decide +kernel
theorem dX6_leavesOne_57 : decode cX6_leavesOne 57 = .ok (.pop, 1) := by decide +kernel
theorem dX6_leavesOne_58 : decode cX6_leavesOne 58 = .ok (.iinc 2 1, 3) := by decide +kernel
theorem dX6_leavesOne_61 : decode cX6_leavesOne 61 = .ok (.goto (-40), 3) := by decide +kernel
theorem dX6_leavesOne_64 : decode cX6_leavesOne 64 = .ok (.aload_n 0, 1) := by decide +kernel
theorem dX6_leavesOne_65 : decode cX6_leavesOne 65 = .ok (.getfield 44, 3) := by decide +kernel
theorem dX6_leavesOne_68 : decode cX6_leavesOne 68 = .ok (.aload_n 0, 1) := by decide +kernel
theorem dX6_leavesOne_69 : decode cX6_leavesOne 69 = .ok (.getfield 16, 3) := by decide +kernel
theorem dX6_leavesOne_72 : decode cX6_leavesOne 72 = .ok (.invokevirtual 167, 3) := by decide +kernel
theorem dX6_leavesOne_75 : decode cX6_leavesOne 75 = .ok (.aload_n 0, 1) := by decide +kernel
theorem dX6_leavesOne_76 : decode cX6_leavesOne 76 = .ok (.getfield 44, 3) := by decide +kernel
theorem dX6_leavesOne_79 : decode cX6_leavesOne 79 = .ok (.iconst 2, 1) := by decide +kernel
theorem dX6_leavesOne_80 : decode cX6_leavesOne 80 = .ok (.invokevirtual 213, 3) := by decide +kernel
theorem dX6_leavesOne_83 : decode cX6_leavesOne 83 = .ok (.iconst 1, 1) := by decide +kernel
theorem dX6_leavesOne_84 : decode cX6_leavesOne 84 = .ok (.if_icmp .ne 7, 3) := by decide +kernel
theorem dX6_leavesOne_87 : decode cX6_leavesOne 87 = .ok (.iconst 1, 1) := by decide +kernel
theorem dX6_leavesOne_88 : decode cX6_leavesOne 88 = .ok (.goto 4, 3) := by decide +kernel
theorem dX6_leavesOne_91 : decode cX6_leavesOne 91 = .ok (.iconst 0, 1) := by decide +kernel
theorem dX6_leavesOne_92 : decode cX6_leavesOne 92 = .ok (.ireturn, 1) := by decide +kernel
theorem dX7_in_0 : decode cX7_in 0 = .ok (.lload_n 0, 1) := by decide +kernel
theorem dX7_in_1 : decode cX7_in 1 = .ok (.lload_n 2, 1) := by decide +kernel
theorem dX7_in_2 : decode cX7_in 2 = .ok (.lcmp, 1) := by decide +kernel
theorem dX7_in_3 : decode cX7_in 3 = .ok (.ifCond .lt 14, 3) := by decide +kernel
theorem dX7_in_6 : decode cX7_in 6 = .ok (.lload_n 0, 1) := by decide +kernel
theorem dX7_in_7 : decode cX7_in 7 = .ok (.lload 4, 2) := by decide +kernel
theorem dX7_in_9 : decode cX7_in 9 = .ok (.lcmp, 1) := by decide +kernel
theorem dX7_in_10 : decode cX7_in 10 = .ok (.ifCond .gt 7, 3) := by decide +kernel
theorem dX7_in_13 : decode cX7_in 13 = .ok (.iconst 1, 1) := by decide +kernel
theorem dX7_in_14 : decode cX7_in 14 = .ok (.goto 4, 3) := by decide +kernel
theorem dX7_in_17 : decode cX7_in 17 = .ok (.iconst 0, 1) := by decide +kernel
theorem dX7_in_18 : decode cX7_in 18 = .ok (.ireturn, 1) := by decide +kernel
set_option maxRecDepth 20000 in
theorem ggX7_type_X7_in : GoodIn wsX7_type wsX7_in := goodIn_r _ [8] (by decide +kernel) (by decide +kernel)
set_option maxRecDepth 20000 in
theorem gX7_type_X7_in : GoodIn wsX7_type (va_wsS RX7 9 yX7_in wsX7_in) := goodIn_app (goodIn_of _ (by decide +kernel)) ggX7_type_X7_in
theorem dX7_type_0 : decode cX7_type 0 = .ok (.aload_n 0, 1) := by decide +kernel
theorem dX7_type_1 : decode cX7_type 1 = .ok (.iconst 0, 1) := by decide +kernel
theorem dX7_type_2 : decode cX7_type 2 = .ok (.putfield 1, 3) := by decide +kernel
theorem dX7_type_5 : decode cX7_type 5 = .ok (.iload_n 1, 1) := by decide +kernel
theorem dX7_type_6 : decode cX7_type 6 = .ok (.i2l, 1) := by decide +kernel
theorem dX7_type_7 : decode cX7_type 7 = .ok (.lconst 0, 1) := by decide +kernel
theorem dX7_type_8 : decode cX7_type 8 = .ok (.ldc2_w 7, 3) := by decide +kernel
theorem dX7_type_11 : decode cX7_type 11 = .ok (.invokestatic 9, 3) := by decide +kernel
theorem dX7_type_14 : decode cX7_type 14 = .ok (.ifCond .ne 5, 3) := by decide +kernel
theorem dX7_type_17 : decode cX7_type 17 = .ok (.iconst (-1), 1) := by decide +kernel
theorem dX7_type_18 : decode cX7_type 18 = .ok (.ireturn, 1) := by decide +kernel
theorem dX7_type_19 : decode cX7_type 19 = .ok (.aload_n 0, 1) := by decide +kernel
theorem dX7_type_20 : decode cX7_type 20 = .ok (.getfield 13, 3) := by decide +kernel
theorem dX7_type_23 : decode cX7_type 23 = .ok (.bipush 100, 2) := by decide +kernel
theorem dX7_type_25 : decode cX7_type 25 = .ok (.if_icmp .ne 6, 3) := by decide +kernel
theorem dX7_type_28 : decode cX7_type 28 = .ok (.bipush (-3), 2) := by decide +kernel
theorem dX7_type_30 : decode cX7_type 30 = .ok (.ireturn, 1) := by decide +kernel
theorem dX7_type_31 : decode cX7_type 31 = .ok (.aload_n 0, 1) := by decide +kernel
theorem dX7_type_32 : decode cX7_type 32 = .ok (.getfield 16, 3) := by decide +kernel
theorem dX7_type_35 : decode cX7_type 35 = .ok (.aload_n 0, 1) := by decide +kernel
theorem dX7_type_36 : decode cX7_type 36 = .ok (.getfield 13, 3) := by decide +kernel
theorem dX7_type_39 : decode cX7_type 39 = .ok (.iload_n 1, 1) := by decide +kernel
theorem dX7_type_40 : decode cX7_type 40 = .ok (.iastore, 1) := by decide +kernel
theorem dX7_type_41 : decode cX7_type 41 = .ok (.aload_n 0, 1) := by decide +kernel
theorem dX7_type_42 : decode cX7_type 42 = .ok (.dup, 1) := by decide +kernel
theorem dX7_type_43 : decode cX7_type 43 = .ok (.getfield 13, 3) := by decide +kernel
theorem dX7_type_46 : decode cX7_type 46 = .ok (.iconst 1, 1) := by decide +kernel
theorem dX7_type_47 : decode cX7_type 47 = .ok (.iadd, 1) := by decide +kernel
theorem dX7_type_48 : decode cX7_type 48 = .ok (.putfield 13, 3) := by decide +kernel
theorem dX7_type_51 : decode cX7_type 51 = .ok (.aload_n 0, 1) := by decide +kernel
theorem dX7_type_52 : decode cX7_type 52 = .ok (.getfield 13, 3) := by decide +kernel
theorem dX7_type_55 : decode cX7_type 55 = .ok (.ireturn, 1) := by decide +kernel
theorem dX7_clear_0 : decode cX7_clear 0 = .ok (.aload_n 0, 1) := by decide +kernel
theorem dX7_clear_1 : decode cX7_clear 1 = .ok (.iconst 0, 1) := by decide +kernel
theorem dX7_clear_2 : decode cX7_clear 2 = .ok (.putfield 1, 3) := by decide +kernel
theorem dX7_clear_5 : decode cX7_clear 5 = .ok (.aload_n 0, 1) := by decide +kernel
theorem dX7_clear_6 : decode cX7_clear 6 = .ok (.getfield 13, 3) := by decide +kernel
theorem dX7_clear_9 : decode cX7_clear 9 = .ok (.istore_n 1, 1) := by decide +kernel
theorem dX7_clear_10 : decode cX7_clear 10 = .ok (.aload_n 0, 1) := by decide +kernel
theorem dX7_clear_11 : decode cX7_clear 11 = .ok (.iconst 0, 1) := by decide +kernel
theorem dX7_clear_12 : decode cX7_clear 12 = .ok (.putfield 13, 3) := by decide +kernel
theorem dX7_clear_15 : decode cX7_clear 15 = .ok (.iload_n 1, 1) := by decide +kernel
theorem dX7_clear_16 : decode cX7_clear 16 = .ok (.ireturn, 1) := by decide +kernel
theorem dX7_letterAt_0 : decode cX7_letterAt 0 = .ok (.iload_n 1, 1) := by decide +kernel
theorem dX7_letterAt_1 : decode cX7_letterAt 1 = .ok (.aload_n 0, 1) := by decide +kernel
theorem dX7_letterAt_2 : decode cX7_letterAt 2 = .ok (.getfield 13, 3) := by decide +kernel
theorem dX7_letterAt_5 : decode cX7_letterAt 5 = .ok (.if_icmp .ge 12, 3) := by decide +kernel
theorem dX7_letterAt_8 : decode cX7_letterAt 8 = .ok (.aload_n 0, 1) := by decide +kernel
theorem dX7_letterAt_9 : decode cX7_letterAt 9 = .ok (.getfield 16, 3) := by decide +kernel
theorem dX7_letterAt_12 : decode cX7_letterAt 12 = .ok (.iload_n 1, 1) := by decide +kernel
theorem dX7_letterAt_13 : decode cX7_letterAt 13 = .ok (.iaload, 1) := by decide +kernel
theorem dX7_letterAt_14 : decode cX7_letterAt 14 = .ok (.goto 4, 3) := by decide +kernel
theorem dX7_letterAt_17 : decode cX7_letterAt 17 = .ok (.iconst (-1), 1) := by decide +kernel
theorem dX7_letterAt_18 : decode cX7_letterAt 18 = .ok (.ireturn, 1) := by decide +kernel
set_option maxRecDepth 20000 in
theorem ggX7_next_X7_letterAt : GoodIn wsX7_next wsX7_letterAt := goodIn_r _ [11, 12, 13, 17, 18, 19, 20, 21, 22, 23, 24, 25, 26, 27, 28, 29, 30, 31, 32, 33, 34, 35, 36, 37, 38, 39] (by decide +kernel) (by decide +kernel)
set_option maxRecDepth 20000 in
theorem gX7_next_X7_letterAt : GoodIn wsX7_next (wsV RX7 23 RX7 yX7_letterAt wsX7_letterAt) := goodIn_app (goodIn_of _ (by decide +kernel)) ggX7_next_X7_letterAt
set_option maxRecDepth 20000 in
theorem ggX7_next_X7_in : GoodIn wsX7_next wsX7_in := goodIn_r _ [16] (by decide +kernel) (by decide +kernel)
set_option maxRecDepth 20000 in
theorem gX7_next_X7_in : GoodIn wsX7_next (va_wsS RX7 9 yX7_in wsX7_in) := goodIn_app (goodIn_of _ (by decide +kernel)) ggX7_next_X7_in
theorem dX7_next_0 : decode cX7_next 0 = .ok (.aload_n 0, 1) := by decide +kernel
theorem dX7_next_1 : decode cX7_next 1 = .ok (.aload_n 0, 1) := by decide +kernel
theorem dX7_next_2 : decode cX7_next 2 = .ok (.getfield 20, 3) := by decide +kernel
theorem dX7_next_5 : decode cX7_next 5 = .ok (.invokevirtual 23, 3) := by decide +kernel
theorem dX7_next_8 : decode cX7_next 8 = .ok (.bipush 32, 2) := by decide +kernel
theorem dX7_next_10 : decode cX7_next 10 = .ok (.if_icmp .ne 16, 3) := by decide +kernel
theorem dX7_next_13 : decode cX7_next 13 = .ok (.aload_n 0, 1) := by decide +kernel
theorem dX7_next_14 : decode cX7_next 14 = .ok (.dup, 1) := by decide +kernel
theorem dX7_next_15 : decode cX7_next 15 = .ok (.getfield 20, 3) := by decide +kernel
theorem dX7_next_18 : decode cX7_next 18 = .ok (.iconst 1, 1) := by decide +kernel
theorem dX7_next_19 : decode cX7_next 19 = .ok (.iadd, 1) := by decide +kernel
theorem dX7_next_20 : decode cX7_next 20 = .ok (.putfield 20, 3) := by decide +kernel
theorem dX7_next_23 : decode cX7_next 23 = .ok (.goto (-23), 3) := by decide +kernel
theorem dX7_next_26 : decode cX7_next 26 = .ok (.aload_n 0, 1) := by decide +kernel
theorem dX7_next_27 : decode cX7_next 27 = .ok (.aload_n 0, 1) := by decide +kernel
theorem dX7_next_28 : decode cX7_next 28 = .ok (.getfield 20, 3) := by decide +kernel
theorem dX7_next_31 : decode cX7_next 31 = .ok (.putfield 27, 3) := by decide +kernel
theorem dX7_next_34 : decode cX7_next 34 = .ok (.aload_n 0, 1) := by decide +kernel
theorem dX7_next_35 : decode cX7_next 35 = .ok (.aload_n 0, 1) := by decide +kernel
theorem dX7_next_36 : decode cX7_next 36 = .ok (.getfield 20, 3) := by decide +kernel
theorem dX7_next_39 : decode cX7_next 39 = .ok (.invokevirtual 23, 3) := by decide +kernel
theorem dX7_next_42 : decode cX7_next 42 = .ok (.istore_n 1, 1) := by decide +kernel
theorem dX7_next_43 : decode cX7_next 43 = .ok (.aload_n 0, 1) := by decide +kernel
theorem dX7_next_44 : decode cX7_next 44 = .ok (.dup, 1) := by decide +kernel
theorem dX7_next_45 : decode cX7_next 45 = .ok (.getfield 20, 3) := by decide +kernel
theorem dX7_next_48 : decode cX7_next 48 = .ok (.iload_n 1, 1) := by decide +kernel
theorem dX7_next_49 : decode cX7_next 49 = .ok (.ifCond .ge 7, 3) := by decide +kernel
theorem dX7_next_52 : decode cX7_next 52 = .ok (.iconst 0, 1) := by decide +kernel
theorem dX7_next_53 : decode cX7_next 53 = .ok (.goto 4, 3) := by decide +kernel
theorem dX7_next_56 : decode cX7_next 56 = .ok (.iconst 1, 1) := by decide +kernel
theorem dX7_next_57 : decode cX7_next 57 = .ok (.iadd, 1) := by decide +kernel
theorem dX7_next_58 : decode cX7_next 58 = .ok (.putfield 20, 3) := by decide +kernel
theorem dX7_next_61 : decode cX7_next 61 = .ok (.iload_n 1, 1) := by decide +kernel
theorem dX7_next_62 : decode cX7_next 62 = .ok (.i2l, 1) := by decide +kernel
theorem dX7_next_63 : decode cX7_next 63 = .ok (.ldc2_w 30, 3) := by decide +kernel
theorem dX7_next_66 : decode cX7_next 66 = .ok (.ldc2_w 32, 3) := by decide +kernel
theorem dX7_next_69 : decode cX7_next 69 = .ok (.invokestatic 9, 3) := by decide +kernel
theorem dX7_next_72 : decode cX7_next 72 = .ok (.ifCond .eq 127, 3) := by decide +kernel
theorem dX7_next_75 : decode cX7_next 75 = .ok (.aload_n 0, 1) := by decide +kernel
theorem dX7_next_76 : decode cX7_next 76 = .ok (.iconst 3, 1) := by decide +kernel
theorem dX7_next_77 : decode cX7_next 77 = .ok (.putfield 34, 3) := by decide +kernel
theorem dX7_next_80 : decode cX7_next 80 = .ok (.aload_n 0, 1) := by decide +kernel
theorem dX7_next_81 : decode cX7_next 81 = .ok (.iload_n 1, 1) := by decide +kernel
theorem dX7_next_82 : decode cX7_next 82 = .ok (.bipush 48, 2) := by decide +kernel
theorem dX7_next_84 : decode cX7_next 84 = .ok (.isub, 1) := by decide +kernel
theorem dX7_next_85 : decode cX7_next 85 = .ok (.putfield 37, 3) := by decide +kernel
theorem dX7_next_88 : decode cX7_next 88 = .ok (.aload_n 0, 1) := by decide +kernel
theorem dX7_next_89 : decode cX7_next 89 = .ok (.aload_n 0, 1) := by decide +kernel
theorem dX7_next_90 : decode cX7_next 90 = .ok (.getfield 20, 3) := by decide +kernel
theorem dX7_next_93 : decode cX7_next 93 = .ok (.invokevirtual 23, 3) := by decide +kernel
theorem dX7_next_96 : decode cX7_next 96 = .ok (.i2l, 1) := by decide +kernel
theorem dX7_next_97 : decode cX7_next 97 = .ok (.ldc2_w 30, 3) := by decide +kernel
theorem dX7_next_100 : decode cX7_next 100 = .ok (.ldc2_w 32, 3) := by decide +kernel
theorem dX7_next_103 : decode cX7_next 103 = .ok (.invokestatic 9, 3) := by decide +kernel
theorem dX7_next_106 : decode cX7_next 106 = .ok (.ifCond .eq 56, 3) := by decide +kernel
theorem dX7_next_109 : decode cX7_next 109 = .ok (.aload_n 0, 1) := by decide +kernel
theorem dX7_next_110 : decode cX7_next 110 = .ok (.aload_n 0, 1) := by decide +kernel
theorem dX7_next_111 : decode cX7_next 111 = .ok (.getfield 37, 3) := by decide +kernel
theorem dX7_next_114 : decode cX7_next 114 = .ok (.sipush 9999, 3) := by decide +kernel
theorem dX7_next_117 : decode cX7_next 117 = .ok (.if_icmp .le 10, 3) := by decide +kernel
theorem dX7_next_120 : decode cX7_next 120 = .ok (.aload_n 0, 1) := by decide +kernel
theorem dX7_next_121 : decode cX7_next 121 = .ok (.getfield 37, 3) := by decide +kernel
theorem dX7_next_124 : decode cX7_next 124 = .ok (.goto 22, 3) := by decide +kernel
theorem dX7_next_127 : decode cX7_next 127 = .ok (.bipush 10, 2) := by decide +kernel
theorem dX7_next_129 : decode cX7_next 129 = .ok (.aload_n 0, 1) := by decide +kernel
theorem dX7_next_130 : decode cX7_next 130 = .ok (.getfield 37, 3) := by decide +kernel
theorem dX7_next_133 : decode cX7_next 133 = .ok (.imul, 1) := by decide +kernel
theorem dX7_next_134 : decode cX7_next 134 = .ok (.aload_n 0, 1) := by decide +kernel
theorem dX7_next_135 : decode cX7_next 135 = .ok (.aload_n 0, 1) := by decide +kernel
theorem dX7_next_136 : decode cX7_next 136 = .ok (.getfield 20, 3) := by decide +kernel
theorem dX7_next_139 : decode cX7_next 139 = .ok (.invokevirtual 23, 3) := by decide +kernel
theorem dX7_next_142 : decode cX7_next 142 = .ok (.iadd, 1) := by decide +kernel
theorem dX7_next_143 : decode cX7_next 143 = .ok (.bipush 48, 2) := by decide +kernel
theorem dX7_next_145 : decode cX7_next 145 = .ok (.isub, 1) := by decide +kernel
theorem dX7_next_146 : decode cX7_next 146 = .ok (.putfield 37, 3) := by decide +kernel
theorem dX7_next_149 : decode cX7_next 149 = .ok (.aload_n 0, 1) := by decide +kernel
theorem dX7_next_150 : decode cX7_next 150 = .ok (.dup, 1) := by decide +kernel
theorem dX7_next_151 : decode cX7_next 151 = .ok (.getfield 20, 3) := by decide +kernel
theorem dX7_next_154 : decode cX7_next 154 = .ok (.iconst 1, 1) := by decide +kernel
theorem dX7_next_155 : decode cX7_next 155 = .ok (.iadd, 1) := by decide +kernel
theorem dX7_next_156 : decode cX7_next 156 = .ok (.putfield 20, 3) := by decide +kernel
theorem dX7_next_159 : decode cX7_next 159 = .ok (.goto (-71), 3) := by decide +kernel
theorem dX7_next_162 : decode cX7_next 162 = .ok (.aload_n 0, 1) := by decide +kernel
theorem dX7_next_163 : decode cX7_next 163 = .ok (.getfield 37, 3) := by decide +kernel
theorem dX7_next_166 : decode cX7_next 166 = .ok (.sipush 9999, 3) := by decide +kernel
theorem dX7_next_169 : decode cX7_next 169 = .ok (.if_icmp .gt 22, 3) := by decide +kernel
theorem dX7_next_172 : decode cX7_next 172 = .ok (.iload_n 1, 1) := by decide +kernel
theorem dX7_next_173 : decode cX7_next 173 = .ok (.bipush 48, 2) := by decide +kernel
theorem dX7_next_175 : decode cX7_next 175 = .ok (.if_icmp .ne 67, 3) := by decide +kernel
theorem dX7_next_178 : decode cX7_next 178 = .ok (.aload_n 0, 1) := by decide +kernel
theorem dX7_next_179 : decode cX7_next 179 = .ok (.getfield 20, 3) := by decide +kernel
theorem dX7_next_182 : decode cX7_next 182 = .ok (.aload_n 0, 1) := by decide +kernel
theorem dX7_next_183 : decode cX7_next 183 = .ok (.getfield 27, 3) := by decide +kernel
theorem dX7_next_186 : decode cX7_next 186 = .ok (.iconst 1, 1) := by decide +kernel
theorem dX7_next_187 : decode cX7_next 187 = .ok (.iadd, 1) := by decide +kernel
theorem dX7_next_188 : decode cX7_next 188 = .ok (.if_icmp .le 54, 3) := by decide +kernel
theorem dX7_next_191 : decode cX7_next 191 = .ok (.aload_n 0, 1) := by decide +kernel
theorem dX7_next_192 : decode cX7_next 192 = .ok (.iconst 5, 1) := by decide +kernel
theorem dX7_next_193 : decode cX7_next 193 = .ok (.putfield 34, 3) := by decide +kernel
theorem dX7_next_196 : decode cX7_next 196 = .ok (.goto 46, 3) := by decide +kernel
theorem dX7_next_199 : decode cX7_next 199 = .ok (.aload_n 0, 1) := by decide +kernel
theorem dX7_next_200 : decode cX7_next 200 = .ok (.iload_n 1, 1) := by decide +kernel
theorem dX7_next_201 : decode cX7_next 201 = .ok (.ifCond .ge 7, 3) := by decide +kernel
theorem dX7_next_204 : decode cX7_next 204 = .ok (.iconst 0, 1) := by decide +kernel
theorem dX7_next_205 : decode cX7_next 205 = .ok (.goto 34, 3) := by decide +kernel
theorem dX7_next_208 : decode cX7_next 208 = .ok (.iload_n 1, 1) := by decide +kernel
theorem dX7_next_209 : decode cX7_next 209 = .ok (.bipush 98, 2) := by decide +kernel
theorem dX7_next_211 : decode cX7_next 211 = .ok (.if_icmp .ne 7, 3) := by decide +kernel
theorem dX7_next_214 : decode cX7_next 214 = .ok (.iconst 1, 1) := by decide +kernel
theorem dX7_next_215 : decode cX7_next 215 = .ok (.goto 24, 3) := by decide +kernel
theorem dX7_next_218 : decode cX7_next 218 = .ok (.iload_n 1, 1) := by decide +kernel
theorem dX7_next_219 : decode cX7_next 219 = .ok (.bipush 116, 2) := by decide +kernel
theorem dX7_next_221 : decode cX7_next 221 = .ok (.if_icmp .ne 7, 3) := by decide +kernel
theorem dX7_next_224 : decode cX7_next 224 = .ok (.iconst 2, 1) := by decide +kernel
theorem dX7_next_225 : decode cX7_next 225 = .ok (.goto 14, 3) := by decide +kernel
theorem dX7_next_228 : decode cX7_next 228 = .ok (.iload_n 1, 1) := by decide +kernel
theorem dX7_next_229 : decode cX7_next 229 = .ok (.bipush 59, 2) := by decide +kernel
theorem dX7_next_231 : decode cX7_next 231 = .ok (.if_icmp .ne 7, 3) := by decide +kernel
theorem dX7_next_234 : decode cX7_next 234 = .ok (.iconst 4, 1) := by decide +kernel
theorem dX7_next_235 : decode cX7_next 235 = .ok (.goto 4, 3) := by decide +kernel
theorem dX7_next_238 : decode cX7_next 238 = .ok (.iconst 5, 1) := by decide +kernel
theorem dX7_next_239 : decode cX7_next 239 = .ok (.putfield 34, 3) := by decide +kernel
theorem dX7_next_242 : decode cX7_next 242 = .ok (.return_, 1) := by decide +kernel
set_option maxRecDepth 20000 in
theorem ggX7_isNumber_X7_in : GoodIn wsX7_isNumber wsX7_in := goodIn_r _ [6] (by decide +kernel) (by decide +kernel)
set_option maxRecDepth 20000 in
theorem gX7_isNumber_X7_in : GoodIn wsX7_isNumber (va_wsS RX7 9 yX7_in wsX7_in) := goodIn_app (goodIn_of _ (by decide +kernel)) ggX7_isNumber_X7_in
theorem dX7_isNumber_0 : decode cX7_isNumber 0 = .ok (.aload_n 0, 1) := by decide +kernel
theorem dX7_isNumber_1 : decode cX7_isNumber 1 = .ok (.getfield 34, 3) := by decide +kernel
theorem dX7_isNumber_4 : decode cX7_isNumber 4 = .ok (.iconst 3, 1) := by decide +kernel
theorem dX7_isNumber_5 : decode cX7_isNumber 5 = .ok (.if_icmp .ne 22, 3) := by decide +kernel
theorem dX7_isNumber_8 : decode cX7_isNumber 8 = .ok (.aload_n 0, 1) := by decide +kernel
theorem dX7_isNumber_9 : decode cX7_isNumber 9 = .ok (.getfield 37, 3) := by decide +kernel
theorem dX7_isNumber_12 : decode cX7_isNumber 12 = .ok (.i2l, 1) := by decide +kernel
theorem dX7_isNumber_13 : decode cX7_isNumber 13 = .ok (.iload_n 1, 1) := by decide +kernel
theorem dX7_isNumber_14 : decode cX7_isNumber 14 = .ok (.i2l, 1) := by decide +kernel
theorem dX7_isNumber_15 : decode cX7_isNumber 15 = .ok (.iload_n 2, 1) := by decide +kernel
theorem dX7_isNumber_16 : decode cX7_isNumber 16 = .ok (.i2l, 1) := by decide +kernel
theorem dX7_isNumber_17 : decode cX7_isNumber 17 = .ok (.invokestatic 9, 3) := by decide +kernel
theorem dX7_isNumber_20 : decode cX7_isNumber 20 = .ok (.ifCond .eq 7, 3) := by decide +kernel
theorem dX7_isNumber_23 : decode cX7_isNumber 23 = .ok (.iconst 1, 1) := by decide +kernel
theorem dX7_isNumber_24 : decode cX7_isNumber 24 = .ok (.goto 4, 3) := by decide +kernel
theorem dX7_isNumber_27 : decode cX7_isNumber 27 = .ok (.iconst 0, 1) := by decide +kernel
theorem dX7_isNumber_28 : decode cX7_isNumber 28 = .ok (.ireturn, 1) := by decide +kernel
theorem dX7_init_0 : decode cX7_init 0 = .ok (.aload_n 0, 1) := by decide +kernel
theorem dX7_init_1 : decode cX7_init 1 = .ok (.invokespecial 40, 3) := by decide +kernel
theorem dX7_init_4 : decode cX7_init 4 = .ok (.aload_n 0, 1) := by decide +kernel
theorem dX7_init_5 : decode cX7_init 5 = .ok (.bipush 100, 2) := by decide +kernel
theorem dX7_init_7 : decode cX7_init 7 = .ok (.newarray .int, 2) := by decide +kernel
theorem dX7_init_9 : decode cX7_init 9 = .ok (.putfield 16, 3) := by decide +kernel
theorem dX7_init_12 : decode cX7_init 12 = .ok (.aload_n 0, 1) := by decide +kernel
theorem dX7_init_13 : decode cX7_init 13 = .ok (.bipush 11, 2) := by decide +kernel
theorem dX7_init_15 : decode cX7_init 15 = .ok (.newarray .int, 2) := by decide +kernel
theorem dX7_init_17 : decode cX7_init 17 = .ok (.putfield 46, 3) := by decide +kernel
theorem dX7_init_20 : decode cX7_init 20 = .ok (.aload_n 0, 1) := by decide +kernel
theorem dX7_init_21 : decode cX7_init 21 = .ok (.bipush 11, 2) := by decide +kernel
theorem dX7_init_23 : decode cX7_init 23 = .ok (.newarray .int, 2) := by decide +kernel
theorem dX7_init_25 : decode cX7_init 25 = .ok (.putfield 49, 3) := by decide +kernel
theorem dX7_init_28 : decode cX7_init 28 = .ok (.aload_n 0, 1) := by decide +kernel
theorem dX7_init_29 : decode cX7_init 29 = .ok (.bipush 110, 2) := by decide +kernel
theorem dX7_init_31 : decode cX7_init 31 = .ok (.newarray .int, 2) := by decide +kernel
theorem dX7_init_33 : decode cX7_init 33 = .ok (.putfield 52, 3) := by decide +kernel
theorem dX7_init_36 : decode cX7_init 36 = .ok (.aload_n 0, 1) := by decide +kernel
theorem dX7_init_37 : decode cX7_init 37 = .ok (.iconst 2, 1) := by decide +kernel
theorem dX7_init_38 : decode cX7_init 38 = .ok (.newarray .boolean, 2) := by decide +kernel
theorem dX7_init_40 : decode cX7_init 40 = .ok (.putfield 55, 3) := by decide +kernel
theorem dX7_init_43 : decode cX7_init 43 = .ok (.aload_n 0, 1) := by decide +kernel
theorem dX7_init_44 : decode cX7_init 44 = .ok (.bipush 22, 2) := by decide +kernel
theorem dX7_init_46 : decode cX7_init 46 = .ok (.newarray .int, 2) := by decide +kernel
theorem dX7_init_48 : decode cX7_init 48 = .ok (.putfield 59, 3) := by decide +kernel
theorem dX7_init_51 : decode cX7_init 51 = .ok (.aload_n 0, 1) := by decide +kernel
theorem dX7_init_52 : decode cX7_init 52 = .ok (.bipush 11, 2) := by decide +kernel
theorem dX7_init_54 : decode cX7_init 54 = .ok (.newarray .int, 2) := by decide +kernel
theorem dX7_init_56 : decode cX7_init 56 = .ok (.putfield 62, 3) := by decide +kernel
theorem dX7_init_59 : decode cX7_init 59 = .ok (.aload_n 0, 1) := by decide +kernel
theorem dX7_init_60 : decode cX7_init 60 = .ok (.bipush 7, 2) := by decide +kernel
theorem dX7_init_62 : decode cX7_init 62 = .ok (.newarray .int, 2) := by decide +kernel
theorem dX7_init_64 : decode cX7_init 64 = .ok (.putfield 65, 3) := by decide +kernel
theorem dX7_init_67 : decode cX7_init 67 = .ok (.aload_n 0, 1) := by decide +kernel
theorem dX7_init_68 : decode cX7_init 68 = .ok (.bipush 7, 2) := by decide +kernel
theorem dX7_init_70 : decode cX7_init 70 = .ok (.newarray .int, 2) := by decide +kernel
theorem dX7_init_72 : decode cX7_init 72 = .ok (.putfield 68, 3) := by decide +kernel
theorem dX7_init_75 : decode cX7_init 75 = .ok (.aload_n 0, 1) := by decide +kernel
theorem dX7_init_76 : decode cX7_init 76 = .ok (.bipush 7, 2) := by decide +kernel
theorem dX7_init_78 : decode cX7_init 78 = .ok (.newarray .int, 2) := by decide +kernel
theorem dX7_init_80 : decode cX7_init 80 = .ok (.putfield 71, 3) := by decide +kernel
theorem dX7_init_83 : decode cX7_init 83 = .ok (.aload_n 0, 1) := by decide +kernel
theorem dX7_init_84 : decode cX7_init 84 = .ok (.bipush 7, 2) := by decide +kernel
theorem dX7_init_86 : decode cX7_init 86 = .ok (.newarray .int, 2) := by decide +kernel
theorem dX7_init_88 : decode cX7_init 88 = .ok (.putfield 74, 3) := by decide +kernel
theorem dX7_init_91 : decode cX7_init 91 = .ok (.aload_n 0, 1) := by decide +kernel
theorem dX7_init_92 : decode cX7_init 92 = .ok (.bipush 7, 2) := by decide +kernel
theorem dX7_init_94 : decode cX7_init 94 = .ok (.newarray .int, 2) := by decide +kernel
theorem dX7_init_96 : decode cX7_init 96 = .ok (.putfield 77, 3) := by decide +kernel
theorem dX7_init_99 : decode cX7_init 99 = .ok (.aload_n 0, 1) := by decide +kernel
theorem dX7_init_100 : decode cX7_init 100 = .ok (.sipush 512, 3) := by decide +kernel
theorem dX7_init_103 : decode cX7_init 103 = .ok (.newarray .boolean, 2) := by decide +kernel
theorem dX7_init_105 : decode cX7_init 105 = .ok (.putfield 80, 3) := by decide +kernel
theorem dX7_init_108 : decode cX7_init 108 = .ok (.aload_n 0, 1) := by decide +kernel
theorem dX7_init_109 : decode cX7_init 109 = .ok (.bipush 7, 2) := by decide +kernel
theorem dX7_init_111 : decode cX7_init 111 = .ok (.newarray .int, 2) := by decide +kernel
theorem dX7_init_113 : decode cX7_init 113 = .ok (.putfield 83, 3) := by decide +kernel
theorem dX7_init_116 : decode cX7_init 116 = .ok (.aload_n 0, 1) := by decide +kernel
theorem dX7_init_117 : decode cX7_init 117 = .ok (.getfield 46, 3) := by decide +kernel
theorem dX7_init_120 : decode cX7_init 120 = .ok (.iconst 1, 1) := by decide +kernel
theorem dX7_init_121 : decode cX7_init 121 = .ok (.bipush 100, 2) := by decide +kernel
theorem dX7_init_123 : decode cX7_init 123 = .ok (.iastore, 1) := by decide +kernel
theorem dX7_init_124 : decode cX7_init 124 = .ok (.aload_n 0, 1) := by decide +kernel
theorem dX7_init_125 : decode cX7_init 125 = .ok (.getfield 46, 3) := by decide +kernel
theorem dX7_init_128 : decode cX7_init 128 = .ok (.iconst 2, 1) := by decide +kernel
theorem dX7_init_129 : decode cX7_init 129 = .ok (.sipush 200, 3) := by decide +kernel
theorem dX7_init_132 : decode cX7_init 132 = .ok (.iastore, 1) := by decide +kernel
theorem dX7_init_133 : decode cX7_init 133 = .ok (.aload_n 0, 1) := by decide +kernel
theorem dX7_init_134 : decode cX7_init 134 = .ok (.getfield 46, 3) := by decide +kernel
theorem dX7_init_137 : decode cX7_init 137 = .ok (.iconst 3, 1) := by decide +kernel
theorem dX7_init_138 : decode cX7_init 138 = .ok (.iconst 2, 1) := by decide +kernel
theorem dX7_init_139 : decode cX7_init 139 = .ok (.iastore, 1) := by decide +kernel
theorem dX7_init_140 : decode cX7_init 140 = .ok (.return_, 1) := by decide +kernel
theorem dX7_placeOf_0 : decode cX7_placeOf 0 = .ok (.iconst 0, 1) := by decide +kernel
theorem dX7_placeOf_1 : decode cX7_placeOf 1 = .ok (.istore_n 2, 1) := by decide +kernel
theorem dX7_placeOf_2 : decode cX7_placeOf 2 = .ok (.iload_n 2, 1) := by decide +kernel
theorem dX7_placeOf_3 : decode cX7_placeOf 3 = .ok (.aload_n 0, 1) := by decide +kernel
theorem dX7_placeOf_4 : decode cX7_placeOf 4 = .ok (.iconst 0, 1) := by decide +kernel
theorem dX7_placeOf_5 : decode cX7_placeOf 5 = .ok (.iaload, 1) := by decide +kernel
theorem dX7_placeOf_6 : decode cX7_placeOf 6 = .ok (.if_icmp .ge 18, 3) := by decide +kernel
theorem dX7_placeOf_9 : decode cX7_placeOf 9 = .ok (.aload_n 0, 1) := by decide +kernel
theorem dX7_placeOf_10 : decode cX7_placeOf 10 = .ok (.iconst 4, 1) := by decide +kernel
theorem dX7_placeOf_11 : decode cX7_placeOf 11 = .ok (.iload_n 2, 1) := by decide +kernel
theorem dX7_placeOf_12 : decode cX7_placeOf 12 = .ok (.iadd, 1) := by decide +kernel
theorem dX7_placeOf_13 : decode cX7_placeOf 13 = .ok (.iaload, 1) := by decide +kernel
theorem dX7_placeOf_14 : decode cX7_placeOf 14 = .ok (.iload_n 1, 1) := by decide +kernel
theorem dX7_placeOf_15 : decode cX7_placeOf 15 = .ok (.if_icmp .ge 9, 3) := by decide +kernel
theorem dX7_placeOf_18 : decode cX7_placeOf 18 = .ok (.iinc 2 1, 3) := by decide +kernel
theorem dX7_placeOf_21 : decode cX7_placeOf 21 = .ok (.goto (-19), 3) := by decide +kernel
theorem dX7_placeOf_24 : decode cX7_placeOf 24 = .ok (.iload_n 2, 1) := by decide +kernel
theorem dX7_placeOf_25 : decode cX7_placeOf 25 = .ok (.aload_n 0, 1) := by decide +kernel
theorem dX7_placeOf_26 : decode cX7_placeOf 26 = .ok (.iconst 0, 1) := by decide +kernel
theorem dX7_placeOf_27 : decode cX7_placeOf 27 = .ok (.iaload, 1) := by decide +kernel
theorem dX7_placeOf_28 : decode cX7_placeOf 28 = .ok (.if_icmp .ge 16, 3) := by decide +kernel
theorem dX7_placeOf_31 : decode cX7_placeOf 31 = .ok (.aload_n 0, 1) := by decide +kernel
theorem dX7_placeOf_32 : decode cX7_placeOf 32 = .ok (.iconst 4, 1) := by decide +kernel
theorem dX7_placeOf_33 : decode cX7_placeOf 33 = .ok (.iload_n 2, 1) := by decide +kernel
theorem dX7_placeOf_34 : decode cX7_placeOf 34 = .ok (.iadd, 1) := by decide +kernel
theorem dX7_placeOf_35 : decode cX7_placeOf 35 = .ok (.iaload, 1) := by decide +kernel
theorem dX7_placeOf_36 : decode cX7_placeOf 36 = .ok (.iload_n 1, 1) := by decide +kernel
theorem dX7_placeOf_37 : decode cX7_placeOf 37 = .ok (.if_icmp .ne 7, 3) := by decide +kernel
theorem dX7_placeOf_40 : decode cX7_placeOf 40 = .ok (.iload_n 2, 1) := by decide +kernel
theorem dX7_placeOf_41 : decode cX7_placeOf 41 = .ok (.goto 6, 3) := by decide +kernel
theorem dX7_placeOf_44 : decode cX7_placeOf 44 = .ok (.iconst (-1), 1) := by decide +kernel
theorem dX7_placeOf_45 : decode cX7_placeOf 45 = .ok (.iload_n 2, 1) := by decide +kernel
theorem dX7_placeOf_46 : decode cX7_placeOf 46 = .ok (.isub, 1) := by decide +kernel
theorem dX7_placeOf_47 : decode cX7_placeOf 47 = .ok (.ireturn, 1) := by decide +kernel
set_option maxRecDepth 20000 in
theorem ggX7_put_X7_placeOf : GoodIn wsX7_put wsX7_placeOf := goodIn_r _ [4] (by decide +kernel) (by decide +kernel)
set_option maxRecDepth 20000 in
theorem gX7_put_X7_placeOf : GoodIn wsX7_put (va_wsS RX7 86 yX7_placeOf wsX7_placeOf) := goodIn_app (goodIn_of _ (by decide +kernel)) ggX7_put_X7_placeOf
theorem dX7_put_0 : decode cX7_put 0 = .ok (.iconst (-1), 1) := by decide +kernel
theorem dX7_put_1 : decode cX7_put 1 = .ok (.aload_n 0, 1) := by decide +kernel
theorem dX7_put_2 : decode cX7_put 2 = .ok (.iload_n 1, 1) := by decide +kernel
theorem dX7_put_3 : decode cX7_put 3 = .ok (.invokestatic 86, 3) := by decide +kernel
theorem dX7_put_6 : decode cX7_put 6 = .ok (.isub, 1) := by decide +kernel
theorem dX7_put_7 : decode cX7_put 7 = .ok (.istore_n 2, 1) := by decide +kernel
theorem dX7_put_8 : decode cX7_put 8 = .ok (.aload_n 0, 1) := by decide +kernel
theorem dX7_put_9 : decode cX7_put 9 = .ok (.iconst 0, 1) := by decide +kernel
theorem dX7_put_10 : decode cX7_put 10 = .ok (.iaload, 1) := by decide +kernel
theorem dX7_put_11 : decode cX7_put 11 = .ok (.istore_n 3, 1) := by decide +kernel
theorem dX7_put_12 : decode cX7_put 12 = .ok (.iload_n 3, 1) := by decide +kernel
theorem dX7_put_13 : decode cX7_put 13 = .ok (.iload_n 2, 1) := by decide +kernel
theorem dX7_put_14 : decode cX7_put 14 = .ok (.if_icmp .le 21, 3) := by decide +kernel
theorem dX7_put_17 : decode cX7_put 17 = .ok (.aload_n 0, 1) := by decide +kernel
theorem dX7_put_18 : decode cX7_put 18 = .ok (.iconst 4, 1) := by decide +kernel
theorem dX7_put_19 : decode cX7_put 19 = .ok (.iload_n 3, 1) := by decide +kernel
theorem dX7_put_20 : decode cX7_put 20 = .ok (.iadd, 1) := by decide +kernel
theorem dX7_put_21 : decode cX7_put 21 = .ok (.aload_n 0, 1) := by decide +kernel
theorem dX7_put_22 : decode cX7_put 22 = .ok (.iconst 4, 1) := by decide +kernel
theorem dX7_put_23 : decode cX7_put 23 = .ok (.iload_n 3, 1) := by decide +kernel
theorem dX7_put_24 : decode cX7_put 24 = .ok (.iadd, 1) := by decide +kernel
theorem dX7_put_25 : decode cX7_put 25 = .ok (.iconst 1, 1) := by decide +kernel
theorem dX7_put_26 : decode cX7_put 26 = .ok (.isub, 1) := by decide +kernel
theorem dX7_put_27 : decode cX7_put 27 = .ok (.iaload, 1) := by decide +kernel
theorem dX7_put_28 : decode cX7_put 28 = .ok (.iastore, 1) := by decide +kernel
theorem dX7_put_29 : decode cX7_put 29 = .ok (.iinc 3 (-1), 3) := by decide +kernel
theorem dX7_put_32 : decode cX7_put 32 = .ok (.goto (-20), 3) := by decide +kernel
theorem dX7_put_35 : decode cX7_put 35 = .ok (.aload_n 0, 1) := by decide +kernel
theorem dX7_put_36 : decode cX7_put 36 = .ok (.iconst 4, 1) := by decide +kernel
theorem dX7_put_37 : decode cX7_put 37 = .ok (.iload_n 2, 1) := by decide +kernel
theorem dX7_put_38 : decode cX7_put 38 = .ok (.iadd, 1) := by decide +kernel
theorem dX7_put_39 : decode cX7_put 39 = .ok (.iload_n 1, 1) := by decide +kernel
theorem dX7_put_40 : decode cX7_put 40 = .ok (.iastore, 1) := by decide +kernel
theorem dX7_put_41 : decode cX7_put 41 = .ok (.aload_n 0, 1) := by decide +kernel
theorem dX7_put_42 : decode cX7_put 42 = .ok (.iconst 0, 1) := by decide +kernel
theorem dX7_put_43 : decode cX7_put 43 = .ok (.dup2, 1) := by decide +kernel
theorem dX7_put_44 : decode cX7_put 44 = .ok (.iaload, 1) := by decide +kernel
theorem dX7_put_45 : decode cX7_put 45 = .ok (.iconst 1, 1) := by decide +kernel
theorem dX7_put_46 : decode cX7_put 46 = .ok (.iadd, 1) := by decide +kernel
theorem dX7_put_47 : decode cX7_put 47 = .ok (.iastore, 1) := by decide +kernel
theorem dX7_put_48 : decode cX7_put 48 = .ok (.return_, 1) := by decide +kernel
theorem dX7_drop_0 : decode cX7_drop 0 = .ok (.aload_n 0, 1) := by decide +kernel
theorem dX7_drop_1 : decode cX7_drop 1 = .ok (.iconst 0, 1) := by decide +kernel
theorem dX7_drop_2 : decode cX7_drop 2 = .ok (.dup2, 1) := by decide +kernel
theorem dX7_drop_3 : decode cX7_drop 3 = .ok (.iaload, 1) := by decide +kernel
theorem dX7_drop_4 : decode cX7_drop 4 = .ok (.iconst 1, 1) := by decide +kernel
theorem dX7_drop_5 : decode cX7_drop 5 = .ok (.isub, 1) := by decide +kernel
theorem dX7_drop_6 : decode cX7_drop 6 = .ok (.iastore, 1) := by decide +kernel
theorem dX7_drop_7 : decode cX7_drop 7 = .ok (.iload_n 1, 1) := by decide +kernel
theorem dX7_drop_8 : decode cX7_drop 8 = .ok (.istore_n 2, 1) := by decide +kernel
theorem dX7_drop_9 : decode cX7_drop 9 = .ok (.iload_n 2, 1) := by decide +kernel
theorem dX7_drop_10 : decode cX7_drop 10 = .ok (.aload_n 0, 1) := by decide +kernel
theorem dX7_drop_11 : decode cX7_drop 11 = .ok (.iconst 0, 1) := by decide +kernel
theorem dX7_drop_12 : decode cX7_drop 12 = .ok (.iaload, 1) := by decide +kernel
theorem dX7_drop_13 : decode cX7_drop 13 = .ok (.if_icmp .ge 21, 3) := by decide +kernel
theorem dX7_drop_16 : decode cX7_drop 16 = .ok (.aload_n 0, 1) := by decide +kernel
theorem dX7_drop_17 : decode cX7_drop 17 = .ok (.iconst 4, 1) := by decide +kernel
theorem dX7_drop_18 : decode cX7_drop 18 = .ok (.iload_n 2, 1) := by decide +kernel
theorem dX7_drop_19 : decode cX7_drop 19 = .ok (.iadd, 1) := by decide +kernel
theorem dX7_drop_20 : decode cX7_drop 20 = .ok (.aload_n 0, 1) := by decide +kernel
theorem dX7_drop_21 : decode cX7_drop 21 = .ok (.iconst 4, 1) := by decide +kernel
theorem dX7_drop_22 : decode cX7_drop 22 = .ok (.iload_n 2, 1) := by decide +kernel
theorem dX7_drop_23 : decode cX7_drop 23 = .ok (.iadd, 1) := by decide +kernel
theorem dX7_drop_24 : decode cX7_drop 24 = .ok (.iconst 1, 1) := by decide +kernel
theorem dX7_drop_25 : decode cX7_drop 25 = .ok (.iadd, 1) := by decide +kernel
theorem dX7_drop_26 : decode cX7_drop 26 = .ok (.iaload, 1) := by decide +kernel
theorem dX7_drop_27 : decode cX7_drop 27 = .ok (.iastore, 1) := by decide +kernel
theorem dX7_drop_28 : decode cX7_drop 28 = .ok (.iinc 2 1, 3) := by decide +kernel
theorem dX7_drop_31 : decode cX7_drop 31 = .ok (.goto (-22), 3) := by decide +kernel
theorem dX7_drop_34 : decode cX7_drop 34 = .ok (.return_, 1) := by decide +kernel
set_option maxRecDepth 20000 in
theorem ggX7_readBox_X7_next : GoodIn wsX7_readBox wsX7_next := goodIn_r _ [7, 8, 9, 10, 11, 12, 2, 13, 14, 15, 6, 16, 17, 18, 19, 20, 21, 26, 27, 28, 29, 30, 31, 32, 33, 34, 35, 36, 37, 38, 39, 40, 41, 42, 43, 44, 45, 46, 47, 48] (by decide +kernel) (by decide +kernel)
set_option maxRecDepth 20000 in
theorem gX7_readBox_X7_next : GoodIn wsX7_readBox (wsV RX7 90 RX7 yX7_next wsX7_next) := goodIn_app (goodIn_of _ (by decide +kernel)) ggX7_readBox_X7_next
set_option maxRecDepth 20000 in
theorem ggX7_readBox_X7_isNumber : GoodIn wsX7_readBox wsX7_isNumber := goodIn_r _ [25, 12, 2, 19, 20, 6, 21, 26, 27, 28, 29, 30, 31, 32, 33, 34, 35, 36, 37, 38, 39, 40, 41, 42, 43, 44, 45, 46, 47, 48] (by decide +kernel) (by decide +kernel)
set_option maxRecDepth 20000 in
theorem gX7_readBox_X7_isNumber : GoodIn wsX7_readBox (wsV RX7 93 RX7 yX7_isNumber wsX7_isNumber) := goodIn_app (goodIn_of _ (by decide +kernel)) ggX7_readBox_X7_isNumber
theorem dX7_readBox_0 : decode cX7_readBox 0 = .ok (.aload_n 0, 1) := by decide +kernel
theorem dX7_readBox_1 : decode cX7_readBox 1 = .ok (.invokevirtual 90, 3) := by decide +kernel
theorem dX7_readBox_4 : decode cX7_readBox 4 = .ok (.aload_n 0, 1) := by decide +kernel
theorem dX7_readBox_5 : decode cX7_readBox 5 = .ok (.bipush 10, 2) := by decide +kernel
theorem dX7_readBox_7 : decode cX7_readBox 7 = .ok (.sipush 999, 3) := by decide +kernel
theorem dX7_readBox_10 : decode cX7_readBox 10 = .ok (.invokevirtual 93, 3) := by decide +kernel
theorem dX7_readBox_13 : decode cX7_readBox 13 = .ok (.ifCond .ne 5, 3) := by decide +kernel
theorem dX7_readBox_16 : decode cX7_readBox 16 = .ok (.iconst 0, 1) := by decide +kernel
theorem dX7_readBox_17 : decode cX7_readBox 17 = .ok (.ireturn, 1) := by decide +kernel
theorem dX7_readBox_18 : decode cX7_readBox 18 = .ok (.aload_n 0, 1) := by decide +kernel
theorem dX7_readBox_19 : decode cX7_readBox 19 = .ok (.getfield 49, 3) := by decide +kernel
theorem dX7_readBox_22 : decode cX7_readBox 22 = .ok (.iconst 1, 1) := by decide +kernel
theorem dX7_readBox_23 : decode cX7_readBox 23 = .ok (.aload_n 0, 1) := by decide +kernel
theorem dX7_readBox_24 : decode cX7_readBox 24 = .ok (.getfield 37, 3) := by decide +kernel
theorem dX7_readBox_27 : decode cX7_readBox 27 = .ok (.iastore, 1) := by decide +kernel
theorem dX7_readBox_28 : decode cX7_readBox 28 = .ok (.aload_n 0, 1) := by decide +kernel
theorem dX7_readBox_29 : decode cX7_readBox 29 = .ok (.invokevirtual 90, 3) := by decide +kernel
theorem dX7_readBox_32 : decode cX7_readBox 32 = .ok (.aload_n 0, 1) := by decide +kernel
theorem dX7_readBox_33 : decode cX7_readBox 33 = .ok (.aload_n 0, 1) := by decide +kernel
theorem dX7_readBox_34 : decode cX7_readBox 34 = .ok (.getfield 49, 3) := by decide +kernel
theorem dX7_readBox_37 : decode cX7_readBox 37 = .ok (.iconst 1, 1) := by decide +kernel
theorem dX7_readBox_38 : decode cX7_readBox 38 = .ok (.iaload, 1) := by decide +kernel
theorem dX7_readBox_39 : decode cX7_readBox 39 = .ok (.sipush 999, 3) := by decide +kernel
theorem dX7_readBox_42 : decode cX7_readBox 42 = .ok (.invokevirtual 93, 3) := by decide +kernel
theorem dX7_readBox_45 : decode cX7_readBox 45 = .ok (.ifCond .ne 5, 3) := by decide +kernel
theorem dX7_readBox_48 : decode cX7_readBox 48 = .ok (.iconst 0, 1) := by decide +kernel
theorem dX7_readBox_49 : decode cX7_readBox 49 = .ok (.ireturn, 1) := by decide +kernel
theorem dX7_readBox_50 : decode cX7_readBox 50 = .ok (.aload_n 0, 1) := by decide +kernel
theorem dX7_readBox_51 : decode cX7_readBox 51 = .ok (.getfield 49, 3) := by decide +kernel
theorem dX7_readBox_54 : decode cX7_readBox 54 = .ok (.iconst 2, 1) := by decide +kernel
theorem dX7_readBox_55 : decode cX7_readBox 55 = .ok (.aload_n 0, 1) := by decide +kernel
theorem dX7_readBox_56 : decode cX7_readBox 56 = .ok (.getfield 37, 3) := by decide +kernel
theorem dX7_readBox_59 : decode cX7_readBox 59 = .ok (.iastore, 1) := by decide +kernel
theorem dX7_readBox_60 : decode cX7_readBox 60 = .ok (.aload_n 0, 1) := by decide +kernel
theorem dX7_readBox_61 : decode cX7_readBox 61 = .ok (.invokevirtual 90, 3) := by decide +kernel
theorem dX7_readBox_64 : decode cX7_readBox 64 = .ok (.aload_n 0, 1) := by decide +kernel
theorem dX7_readBox_65 : decode cX7_readBox 65 = .ok (.getfield 49, 3) := by decide +kernel
theorem dX7_readBox_68 : decode cX7_readBox 68 = .ok (.iconst 3, 1) := by decide +kernel
theorem dX7_readBox_69 : decode cX7_readBox 69 = .ok (.aload_n 0, 1) := by decide +kernel
theorem dX7_readBox_70 : decode cX7_readBox 70 = .ok (.getfield 37, 3) := by decide +kernel
theorem dX7_readBox_73 : decode cX7_readBox 73 = .ok (.iastore, 1) := by decide +kernel
theorem dX7_readBox_74 : decode cX7_readBox 74 = .ok (.aload_n 0, 1) := by decide +kernel
theorem dX7_readBox_75 : decode cX7_readBox 75 = .ok (.iconst 0, 1) := by decide +kernel
theorem dX7_readBox_76 : decode cX7_readBox 76 = .ok (.bipush 99, 2) := by decide +kernel
theorem dX7_readBox_78 : decode cX7_readBox 78 = .ok (.invokevirtual 93, 3) := by decide +kernel
theorem dX7_readBox_81 : decode cX7_readBox 81 = .ok (.ifCond .eq 22, 3) := by decide +kernel
theorem dX7_readBox_84 : decode cX7_readBox 84 = .ok (.iconst 4, 1) := by decide +kernel
theorem dX7_readBox_85 : decode cX7_readBox 85 = .ok (.aload_n 0, 1) := by decide +kernel
theorem dX7_readBox_86 : decode cX7_readBox 86 = .ok (.getfield 37, 3) := by decide +kernel
theorem dX7_readBox_89 : decode cX7_readBox 89 = .ok (.imul, 1) := by decide +kernel
theorem dX7_readBox_90 : decode cX7_readBox 90 = .ok (.aload_n 0, 1) := by decide +kernel
theorem dX7_readBox_91 : decode cX7_readBox 91 = .ok (.getfield 49, 3) := by decide +kernel
theorem dX7_readBox_94 : decode cX7_readBox 94 = .ok (.iconst 1, 1) := by decide +kernel
theorem dX7_readBox_95 : decode cX7_readBox 95 = .ok (.iaload, 1) := by decide +kernel
theorem dX7_readBox_96 : decode cX7_readBox 96 = .ok (.if_icmp .ge 7, 3) := by decide +kernel
theorem dX7_readBox_99 : decode cX7_readBox 99 = .ok (.iconst 1, 1) := by decide +kernel
theorem dX7_readBox_100 : decode cX7_readBox 100 = .ok (.goto 4, 3) := by decide +kernel
theorem dX7_readBox_103 : decode cX7_readBox 103 = .ok (.iconst 0, 1) := by decide +kernel
theorem dX7_readBox_104 : decode cX7_readBox 104 = .ok (.ireturn, 1) := by decide +kernel
set_option maxRecDepth 20000 in
theorem ggX7_readTime_X7_next : GoodIn wsX7_readTime wsX7_next := goodIn_r _ [7, 8, 9, 10, 11, 12, 2, 13, 14, 15, 6, 16, 17, 18, 19, 20, 21, 32, 33, 34, 35, 36, 37, 38, 39, 40, 41, 42, 43, 44, 45, 46, 47, 48, 49, 50, 51, 52, 53, 54] (by decide +kernel) (by decide +kernel)
set_option maxRecDepth 20000 in
theorem gX7_readTime_X7_next : GoodIn wsX7_readTime (wsV RX7 90 RX7 yX7_next wsX7_next) := goodIn_app (goodIn_of _ (by decide +kernel)) ggX7_readTime_X7_next
set_option maxRecDepth 20000 in
theorem ggX7_readTime_X7_isNumber : GoodIn wsX7_readTime wsX7_isNumber := goodIn_r _ [25, 12, 2, 19, 20, 6, 21, 32, 33, 34, 35, 36, 37, 38, 39, 40, 41, 42, 43, 44, 45, 46, 47, 48, 49, 50, 51, 52, 53, 54] (by decide +kernel) (by decide +kernel)
set_option maxRecDepth 20000 in
theorem gX7_readTime_X7_isNumber : GoodIn wsX7_readTime (wsV RX7 93 RX7 yX7_isNumber wsX7_isNumber) := goodIn_app (goodIn_of _ (by decide +kernel)) ggX7_readTime_X7_isNumber
set_option maxRecDepth 20000 in
theorem ggX7_readTime_X7_placeOf : GoodIn wsX7_readTime wsX7_placeOf := goodIn_r _ [28] (by decide +kernel) (by decide +kernel)
set_option maxRecDepth 20000 in
theorem gX7_readTime_X7_placeOf : GoodIn wsX7_readTime (va_wsS RX7 86 yX7_placeOf wsX7_placeOf) := goodIn_app (goodIn_of _ (by decide +kernel)) ggX7_readTime_X7_placeOf
set_option maxRecDepth 20000 in
theorem ggX7_readTime_X7_put : GoodIn wsX7_readTime wsX7_put := goodIn_r _ [31, 26, 27, 6, 28] (by decide +kernel) (by decide +kernel)
set_option maxRecDepth 20000 in
theorem gX7_readTime_X7_put : GoodIn wsX7_readTime (va_wsS RX7 97 yX7_put wsX7_put) := goodIn_app (goodIn_of _ (by decide +kernel)) ggX7_readTime_X7_put
theorem dX7_readTime_0 : decode cX7_readTime 0 = .ok (.aload_n 0, 1) := by decide +kernel
theorem dX7_readTime_1 : decode cX7_readTime 1 = .ok (.getfield 49, 3) := by decide +kernel
theorem dX7_readTime_4 : decode cX7_readTime 4 = .ok (.iconst 0, 1) := by decide +kernel
theorem dX7_readTime_5 : decode cX7_readTime 5 = .ok (.iaload, 1) := by decide +kernel
theorem dX7_readTime_6 : decode cX7_readTime 6 = .ok (.bipush 7, 2) := by decide +kernel
theorem dX7_readTime_8 : decode cX7_readTime 8 = .ok (.if_icmp .ne 5, 3) := by decide +kernel
theorem dX7_readTime_11 : decode cX7_readTime 11 = .ok (.iconst 0, 1) := by decide +kernel
theorem dX7_readTime_12 : decode cX7_readTime 12 = .ok (.ireturn, 1) := by decide +kernel
theorem dX7_readTime_13 : decode cX7_readTime 13 = .ok (.aload_n 0, 1) := by decide +kernel
theorem dX7_readTime_14 : decode cX7_readTime 14 = .ok (.invokevirtual 90, 3) := by decide +kernel
theorem dX7_readTime_17 : decode cX7_readTime 17 = .ok (.aload_n 0, 1) := by decide +kernel
theorem dX7_readTime_18 : decode cX7_readTime 18 = .ok (.iconst 0, 1) := by decide +kernel
theorem dX7_readTime_19 : decode cX7_readTime 19 = .ok (.sipush 2999, 3) := by decide +kernel
theorem dX7_readTime_22 : decode cX7_readTime 22 = .ok (.invokevirtual 93, 3) := by decide +kernel
theorem dX7_readTime_25 : decode cX7_readTime 25 = .ok (.ifCond .eq 17, 3) := by decide +kernel
theorem dX7_readTime_28 : decode cX7_readTime 28 = .ok (.aload_n 0, 1) := by decide +kernel
theorem dX7_readTime_29 : decode cX7_readTime 29 = .ok (.getfield 49, 3) := by decide +kernel
theorem dX7_readTime_32 : decode cX7_readTime 32 = .ok (.aload_n 0, 1) := by decide +kernel
theorem dX7_readTime_33 : decode cX7_readTime 33 = .ok (.getfield 37, 3) := by decide +kernel
theorem dX7_readTime_36 : decode cX7_readTime 36 = .ok (.invokestatic 86, 3) := by decide +kernel
theorem dX7_readTime_39 : decode cX7_readTime 39 = .ok (.ifCond .lt 5, 3) := by decide +kernel
theorem dX7_readTime_42 : decode cX7_readTime 42 = .ok (.iconst 0, 1) := by decide +kernel
theorem dX7_readTime_43 : decode cX7_readTime 43 = .ok (.ireturn, 1) := by decide +kernel
theorem dX7_readTime_44 : decode cX7_readTime 44 = .ok (.aload_n 0, 1) := by decide +kernel
theorem dX7_readTime_45 : decode cX7_readTime 45 = .ok (.getfield 49, 3) := by decide +kernel
theorem dX7_readTime_48 : decode cX7_readTime 48 = .ok (.aload_n 0, 1) := by decide +kernel
theorem dX7_readTime_49 : decode cX7_readTime 49 = .ok (.getfield 37, 3) := by decide +kernel
theorem dX7_readTime_52 : decode cX7_readTime 52 = .ok (.invokestatic 97, 3) := by decide +kernel
theorem dX7_readTime_55 : decode cX7_readTime 55 = .ok (.iconst 1, 1) := by decide +kernel
theorem dX7_readTime_56 : decode cX7_readTime 56 = .ok (.ireturn, 1) := by decide +kernel
set_option maxRecDepth 20000 in
theorem ggX7_readOne_X7_readBox : GoodIn wsX7_readOne wsX7_readBox := goodIn_r _ [6, 7, 8, 9, 10, 11, 5, 12, 13, 14, 15, 16, 1, 17, 18, 19, 20, 21, 22, 23, 24, 25, 26, 27, 28, 29, 40, 41, 42, 43, 44, 45, 46, 47, 48, 49, 50, 51, 52, 53, 54, 55, 56, 57, 58, 59, 60, 61, 62] (by decide +kernel) (by decide +kernel)
set_option maxRecDepth 20000 in
theorem gX7_readOne_X7_readBox : GoodIn wsX7_readOne (wsV RX7 101 RX7 yX7_readBox wsX7_readBox) := goodIn_app (goodIn_of _ (by decide +kernel)) ggX7_readOne_X7_readBox
set_option maxRecDepth 20000 in
theorem ggX7_readOne_X7_readTime : GoodIn wsX7_readOne wsX7_readTime := goodIn_r _ [33, 7, 8, 9, 10, 11, 5, 12, 13, 14, 15, 16, 1, 17, 18, 19, 20, 21, 22, 23, 24, 25, 26, 27, 28, 29, 34, 35, 36, 37, 38, 39, 40, 41, 42, 43, 44, 45, 46, 47, 48, 49, 50, 51, 52, 53, 54, 55, 56, 57, 58, 59, 60, 61, 62] (by decide +kernel) (by decide +kernel)
set_option maxRecDepth 20000 in
theorem gX7_readOne_X7_readTime : GoodIn wsX7_readOne (wsV RX7 105 RX7 yX7_readTime wsX7_readTime) := goodIn_app (goodIn_of _ (by decide +kernel)) ggX7_readOne_X7_readTime
set_option maxRecDepth 20000 in
theorem ggX7_readOne_X7_next : GoodIn wsX7_readOne wsX7_next := goodIn_r _ [12, 13, 14, 15, 16, 1, 8, 17, 18, 19, 5, 20, 21, 22, 23, 24, 25, 40, 41, 42, 43, 44, 45, 46, 47, 48, 49, 50, 51, 52, 53, 54, 55, 56, 57, 58, 59, 60, 61, 62] (by decide +kernel) (by decide +kernel)
set_option maxRecDepth 20000 in
theorem gX7_readOne_X7_next : GoodIn wsX7_readOne (wsV RX7 90 RX7 yX7_next wsX7_next) := goodIn_app (goodIn_of _ (by decide +kernel)) ggX7_readOne_X7_next
theorem dX7_readOne_0 : decode cX7_readOne 0 = .ok (.aload_n 0, 1) := by decide +kernel
theorem dX7_readOne_1 : decode cX7_readOne 1 = .ok (.getfield 34, 3) := by decide +kernel
theorem dX7_readOne_4 : decode cX7_readOne 4 = .ok (.iconst 1, 1) := by decide +kernel
theorem dX7_readOne_5 : decode cX7_readOne 5 = .ok (.if_icmp .ne 14, 3) := by decide +kernel
theorem dX7_readOne_8 : decode cX7_readOne 8 = .ok (.iload_n 1, 1) := by decide +kernel
theorem dX7_readOne_9 : decode cX7_readOne 9 = .ok (.ifCond .ne 10, 3) := by decide +kernel
theorem dX7_readOne_12 : decode cX7_readOne 12 = .ok (.aload_n 0, 1) := by decide +kernel
theorem dX7_readOne_13 : decode cX7_readOne 13 = .ok (.invokevirtual 101, 3) := by decide +kernel
theorem dX7_readOne_16 : decode cX7_readOne 16 = .ok (.goto 23, 3) := by decide +kernel
theorem dX7_readOne_19 : decode cX7_readOne 19 = .ok (.aload_n 0, 1) := by decide +kernel
theorem dX7_readOne_20 : decode cX7_readOne 20 = .ok (.getfield 34, 3) := by decide +kernel
theorem dX7_readOne_23 : decode cX7_readOne 23 = .ok (.iconst 2, 1) := by decide +kernel
theorem dX7_readOne_24 : decode cX7_readOne 24 = .ok (.if_icmp .ne 14, 3) := by decide +kernel
theorem dX7_readOne_27 : decode cX7_readOne 27 = .ok (.aload_n 0, 1) := by decide +kernel
theorem dX7_readOne_28 : decode cX7_readOne 28 = .ok (.invokevirtual 105, 3) := by decide +kernel
theorem dX7_readOne_31 : decode cX7_readOne 31 = .ok (.ifCond .eq 7, 3) := by decide +kernel
theorem dX7_readOne_34 : decode cX7_readOne 34 = .ok (.iconst 1, 1) := by decide +kernel
theorem dX7_readOne_35 : decode cX7_readOne 35 = .ok (.goto 4, 3) := by decide +kernel
theorem dX7_readOne_38 : decode cX7_readOne 38 = .ok (.iconst 0, 1) := by decide +kernel
theorem dX7_readOne_39 : decode cX7_readOne 39 = .ok (.istore_n 2, 1) := by decide +kernel
theorem dX7_readOne_40 : decode cX7_readOne 40 = .ok (.iload_n 2, 1) := by decide +kernel
theorem dX7_readOne_41 : decode cX7_readOne 41 = .ok (.ifCond .ne 5, 3) := by decide +kernel
theorem dX7_readOne_44 : decode cX7_readOne 44 = .ok (.iconst 0, 1) := by decide +kernel
theorem dX7_readOne_45 : decode cX7_readOne 45 = .ok (.ireturn, 1) := by decide +kernel
theorem dX7_readOne_46 : decode cX7_readOne 46 = .ok (.aload_n 0, 1) := by decide +kernel
theorem dX7_readOne_47 : decode cX7_readOne 47 = .ok (.invokevirtual 90, 3) := by decide +kernel
theorem dX7_readOne_50 : decode cX7_readOne 50 = .ok (.aload_n 0, 1) := by decide +kernel
theorem dX7_readOne_51 : decode cX7_readOne 51 = .ok (.getfield 34, 3) := by decide +kernel
theorem dX7_readOne_54 : decode cX7_readOne 54 = .ok (.iconst 4, 1) := by decide +kernel
theorem dX7_readOne_55 : decode cX7_readOne 55 = .ok (.if_icmp .eq 5, 3) := by decide +kernel
theorem dX7_readOne_58 : decode cX7_readOne 58 = .ok (.iconst 0, 1) := by decide +kernel
theorem dX7_readOne_59 : decode cX7_readOne 59 = .ok (.ireturn, 1) := by decide +kernel
theorem dX7_readOne_60 : decode cX7_readOne 60 = .ok (.aload_n 0, 1) := by decide +kernel
theorem dX7_readOne_61 : decode cX7_readOne 61 = .ok (.invokevirtual 90, 3) := by decide +kernel
theorem dX7_readOne_64 : decode cX7_readOne 64 = .ok (.iconst 1, 1) := by decide +kernel
theorem dX7_readOne_65 : decode cX7_readOne 65 = .ok (.ireturn, 1) := by decide +kernel
set_option maxRecDepth 20000 in
theorem ggX7_heard_X7_next : GoodIn wsX7_heard wsX7_next := goodIn_r _ [14, 2, 5, 15, 16, 4, 17, 18, 19, 20, 13, 21, 6, 22, 23, 24, 25, 51, 52, 53, 54, 55, 56, 57, 58, 59, 60, 61, 62, 63, 64, 65, 66, 67, 68, 69, 70, 71, 72, 73] (by decide +kernel) (by decide +kernel)
set_option maxRecDepth 20000 in
theorem gX7_heard_X7_next : GoodIn wsX7_heard (wsV RX7 90 RX7 yX7_next wsX7_next) := goodIn_app (goodIn_of _ (by decide +kernel)) ggX7_heard_X7_next
set_option maxRecDepth 20000 in
theorem ggX7_heard_X7_readOne : GoodIn wsX7_heard wsX7_readOne := goodIn_r _ [29, 4, 30, 31, 32, 13, 33, 3, 17, 10, 11, 12, 14, 2, 5, 15, 16, 18, 19, 20, 21, 6, 22, 23, 24, 25, 34, 35, 36, 37, 38, 39, 40, 41, 42, 43, 44, 45, 46, 47, 51, 52, 53, 54, 55, 56, 57, 58, 59, 60, 61, 62, 63, 64, 65, 66, 67, 68, 69, 70, 71, 72, 73] (by decide +kernel) (by decide +kernel)
set_option maxRecDepth 20000 in
theorem gX7_heard_X7_readOne : GoodIn wsX7_heard (wsV RX7 108 RX7 yX7_readOne wsX7_readOne) := goodIn_app (goodIn_of _ (by decide +kernel)) ggX7_heard_X7_readOne
set_option maxRecDepth 20000 in
theorem ggX7_heard_X7_copyAll : GoodIn wsX7_heard wsX7_copyAll := goodIn_r _ [50] (by decide +kernel) (by decide +kernel)
set_option maxRecDepth 20000 in
theorem gX7_heard_X7_copyAll : GoodIn wsX7_heard (va_wsS RX7 112 yX7_copyAll wsX7_copyAll) := goodIn_app (goodIn_of _ (by decide +kernel)) ggX7_heard_X7_copyAll
theorem dX7_heard_0 : decode cX7_heard 0 = .ok (.aload_n 0, 1) := by decide +kernel
theorem dX7_heard_1 : decode cX7_heard 1 = .ok (.iconst 0, 1) := by decide +kernel
theorem dX7_heard_2 : decode cX7_heard 2 = .ok (.putfield 1, 3) := by decide +kernel
theorem dX7_heard_5 : decode cX7_heard 5 = .ok (.aload_n 0, 1) := by decide +kernel
theorem dX7_heard_6 : decode cX7_heard 6 = .ok (.iconst 0, 1) := by decide +kernel
theorem dX7_heard_7 : decode cX7_heard 7 = .ok (.putfield 20, 3) := by decide +kernel
theorem dX7_heard_10 : decode cX7_heard 10 = .ok (.aload_n 0, 1) := by decide +kernel
theorem dX7_heard_11 : decode cX7_heard 11 = .ok (.getfield 49, 3) := by decide +kernel
theorem dX7_heard_14 : decode cX7_heard 14 = .ok (.iconst 0, 1) := by decide +kernel
theorem dX7_heard_15 : decode cX7_heard 15 = .ok (.iconst 0, 1) := by decide +kernel
theorem dX7_heard_16 : decode cX7_heard 16 = .ok (.iastore, 1) := by decide +kernel
theorem dX7_heard_17 : decode cX7_heard 17 = .ok (.aload_n 0, 1) := by decide +kernel
theorem dX7_heard_18 : decode cX7_heard 18 = .ok (.getfield 49, 3) := by decide +kernel
theorem dX7_heard_21 : decode cX7_heard 21 = .ok (.iconst 1, 1) := by decide +kernel
theorem dX7_heard_22 : decode cX7_heard 22 = .ok (.bipush 100, 2) := by decide +kernel
theorem dX7_heard_24 : decode cX7_heard 24 = .ok (.iastore, 1) := by decide +kernel
theorem dX7_heard_25 : decode cX7_heard 25 = .ok (.aload_n 0, 1) := by decide +kernel
theorem dX7_heard_26 : decode cX7_heard 26 = .ok (.getfield 49, 3) := by decide +kernel
theorem dX7_heard_29 : decode cX7_heard 29 = .ok (.iconst 2, 1) := by decide +kernel
theorem dX7_heard_30 : decode cX7_heard 30 = .ok (.sipush 200, 3) := by decide +kernel
theorem dX7_heard_33 : decode cX7_heard 33 = .ok (.iastore, 1) := by decide +kernel
theorem dX7_heard_34 : decode cX7_heard 34 = .ok (.aload_n 0, 1) := by decide +kernel
theorem dX7_heard_35 : decode cX7_heard 35 = .ok (.getfield 49, 3) := by decide +kernel
theorem dX7_heard_38 : decode cX7_heard 38 = .ok (.iconst 3, 1) := by decide +kernel
theorem dX7_heard_39 : decode cX7_heard 39 = .ok (.iconst 2, 1) := by decide +kernel
theorem dX7_heard_40 : decode cX7_heard 40 = .ok (.iastore, 1) := by decide +kernel
theorem dX7_heard_41 : decode cX7_heard 41 = .ok (.iconst 0, 1) := by decide +kernel
theorem dX7_heard_42 : decode cX7_heard 42 = .ok (.istore_n 1, 1) := by decide +kernel
theorem dX7_heard_43 : decode cX7_heard 43 = .ok (.iconst 0, 1) := by decide +kernel
theorem dX7_heard_44 : decode cX7_heard 44 = .ok (.istore_n 2, 1) := by decide +kernel
theorem dX7_heard_45 : decode cX7_heard 45 = .ok (.aload_n 0, 1) := by decide +kernel
theorem dX7_heard_46 : decode cX7_heard 46 = .ok (.invokevirtual 90, 3) := by decide +kernel
theorem dX7_heard_49 : decode cX7_heard 49 = .ok (.aload_n 0, 1) := by decide +kernel
theorem dX7_heard_50 : decode cX7_heard 50 = .ok (.getfield 34, 3) := by decide +kernel
theorem dX7_heard_53 : decode cX7_heard 53 = .ok (.ifCond .eq 53, 3) := by decide +kernel
theorem dX7_heard_56 : decode cX7_heard 56 = .ok (.aload_n 0, 1) := by decide +kernel
theorem dX7_heard_57 : decode cX7_heard 57 = .ok (.getfield 34, 3) := by decide +kernel
theorem dX7_heard_60 : decode cX7_heard 60 = .ok (.iconst 1, 1) := by decide +kernel
theorem dX7_heard_61 : decode cX7_heard 61 = .ok (.if_icmp .ne 7, 3) := by decide +kernel
theorem dX7_heard_64 : decode cX7_heard 64 = .ok (.iconst 1, 1) := by decide +kernel
theorem dX7_heard_65 : decode cX7_heard 65 = .ok (.goto 4, 3) := by decide +kernel
theorem dX7_heard_68 : decode cX7_heard 68 = .ok (.iconst 0, 1) := by decide +kernel
theorem dX7_heard_69 : decode cX7_heard 69 = .ok (.istore_n 3, 1) := by decide +kernel
theorem dX7_heard_70 : decode cX7_heard 70 = .ok (.aload_n 0, 1) := by decide +kernel
theorem dX7_heard_71 : decode cX7_heard 71 = .ok (.iload_n 2, 1) := by decide +kernel
theorem dX7_heard_72 : decode cX7_heard 72 = .ok (.invokevirtual 108, 3) := by decide +kernel
theorem dX7_heard_75 : decode cX7_heard 75 = .ok (.ifCond .ne 11, 3) := by decide +kernel
theorem dX7_heard_78 : decode cX7_heard 78 = .ok (.bipush (-10), 2) := by decide +kernel
theorem dX7_heard_80 : decode cX7_heard 80 = .ok (.aload_n 0, 1) := by decide +kernel
theorem dX7_heard_81 : decode cX7_heard 81 = .ok (.getfield 27, 3) := by decide +kernel
theorem dX7_heard_84 : decode cX7_heard 84 = .ok (.isub, 1) := by decide +kernel
theorem dX7_heard_85 : decode cX7_heard 85 = .ok (.ireturn, 1) := by decide +kernel
theorem dX7_heard_86 : decode cX7_heard 86 = .ok (.iload_n 2, 1) := by decide +kernel
theorem dX7_heard_87 : decode cX7_heard 87 = .ok (.ifCond .ne 7, 3) := by decide +kernel
theorem dX7_heard_90 : decode cX7_heard 90 = .ok (.iload_n 3, 1) := by decide +kernel
theorem dX7_heard_91 : decode cX7_heard 91 = .ok (.ifCond .eq 7, 3) := by decide +kernel
theorem dX7_heard_94 : decode cX7_heard 94 = .ok (.iconst 1, 1) := by decide +kernel
theorem dX7_heard_95 : decode cX7_heard 95 = .ok (.goto 4, 3) := by decide +kernel
theorem dX7_heard_98 : decode cX7_heard 98 = .ok (.iconst 0, 1) := by decide +kernel
theorem dX7_heard_99 : decode cX7_heard 99 = .ok (.istore_n 2, 1) := by decide +kernel
theorem dX7_heard_100 : decode cX7_heard 100 = .ok (.iinc 1 1, 3) := by decide +kernel
theorem dX7_heard_103 : decode cX7_heard 103 = .ok (.goto (-54), 3) := by decide +kernel
theorem dX7_heard_106 : decode cX7_heard 106 = .ok (.aload_n 0, 1) := by decide +kernel
theorem dX7_heard_107 : decode cX7_heard 107 = .ok (.iconst 0, 1) := by decide +kernel
theorem dX7_heard_108 : decode cX7_heard 108 = .ok (.putfield 13, 3) := by decide +kernel
theorem dX7_heard_111 : decode cX7_heard 111 = .ok (.aload_n 0, 1) := by decide +kernel
theorem dX7_heard_112 : decode cX7_heard 112 = .ok (.getfield 49, 3) := by decide +kernel
theorem dX7_heard_115 : decode cX7_heard 115 = .ok (.aload_n 0, 1) := by decide +kernel
theorem dX7_heard_116 : decode cX7_heard 116 = .ok (.getfield 46, 3) := by decide +kernel
theorem dX7_heard_119 : decode cX7_heard 119 = .ok (.invokestatic 112, 3) := by decide +kernel
theorem dX7_heard_122 : decode cX7_heard 122 = .ok (.aload_n 0, 1) := by decide +kernel
theorem dX7_heard_123 : decode cX7_heard 123 = .ok (.iconst 0, 1) := by decide +kernel
theorem dX7_heard_124 : decode cX7_heard 124 = .ok (.putfield 116, 3) := by decide +kernel
theorem dX7_heard_127 : decode cX7_heard 127 = .ok (.aload_n 0, 1) := by decide +kernel
theorem dX7_heard_128 : decode cX7_heard 128 = .ok (.getfield 55, 3) := by decide +kernel
theorem dX7_heard_131 : decode cX7_heard 131 = .ok (.iconst 0, 1) := by decide +kernel
theorem dX7_heard_132 : decode cX7_heard 132 = .ok (.iconst 0, 1) := by decide +kernel
theorem dX7_heard_133 : decode cX7_heard 133 = .ok (.bastore, 1) := by decide +kernel
