theorem dX7_greatestOf_4 : decode cX7_greatestOf 4 = .ok (.iload_n 1, 1) := by decide +kernel
theorem dX7_greatestOf_5 : decode cX7_greatestOf 5 = .ok (.iload_n 2, 1) := by decide +kernel
theorem dX7_greatestOf_6 : decode cX7_greatestOf 6 = .ok (.invokestatic 144, 3) := by decide +kernel
theorem dX7_greatestOf_9 : decode cX7_greatestOf 9 = .ok (.iconst 2, 1) := by decide +kernel
theorem dX7_greatestOf_10 : decode cX7_greatestOf 10 = .ok (.aload_n 0, 1) := by decide +kernel
theorem dX7_greatestOf_11 : decode cX7_greatestOf 11 = .ok (.getfield 46, 3) := by decide +kernel
theorem dX7_greatestOf_14 : decode cX7_greatestOf 14 = .ok (.iconst 3, 1) := by decide +kernel
theorem dX7_greatestOf_15 : decode cX7_greatestOf 15 = .ok (.iaload, 1) := by decide +kernel
theorem dX7_greatestOf_16 : decode cX7_greatestOf 16 = .ok (.imul, 1) := by decide +kernel
theorem dX7_greatestOf_17 : decode cX7_greatestOf 17 = .ok (.iadd, 1) := by decide +kernel
theorem dX7_greatestOf_18 : decode cX7_greatestOf 18 = .ok (.aload_n 0, 1) := by decide +kernel
theorem dX7_greatestOf_19 : decode cX7_greatestOf 19 = .ok (.getfield 71, 3) := by decide +kernel
theorem dX7_greatestOf_22 : decode cX7_greatestOf 22 = .ok (.iconst 0, 1) := by decide +kernel
theorem dX7_greatestOf_23 : decode cX7_greatestOf 23 = .ok (.iaload, 1) := by decide +kernel
theorem dX7_greatestOf_24 : decode cX7_greatestOf 24 = .ok (.imul, 1) := by decide +kernel
theorem dX7_greatestOf_25 : decode cX7_greatestOf 25 = .ok (.aload_n 0, 1) := by decide +kernel
theorem dX7_greatestOf_26 : decode cX7_greatestOf 26 = .ok (.getfield 68, 3) := by decide +kernel
theorem dX7_greatestOf_29 : decode cX7_greatestOf 29 = .ok (.iconst 0, 1) := by decide +kernel
theorem dX7_greatestOf_30 : decode cX7_greatestOf 30 = .ok (.iaload, 1) := by decide +kernel
theorem dX7_greatestOf_31 : decode cX7_greatestOf 31 = .ok (.idiv, 1) := by decide +kernel
theorem dX7_greatestOf_32 : decode cX7_greatestOf 32 = .ok (.ireturn, 1) := by decide +kernel
set_option maxRecDepth 20000 in
theorem ggX7_isNarrower_X7_leastOf : GoodIn wsX7_isNarrower wsX7_leastOf := goodIn_r _ [10, 1, 4, 5, 11, 12, 9, 13, 14, 15, 16, 17, 18, 19, 20, 21, 22, 23, 24, 25, 26, 27, 28, 29, 30, 31, 32, 33, 34, 35, 36] (by decide +kernel) (by decide +kernel)
set_option maxRecDepth 20000 in
theorem gX7_isNarrower_X7_leastOf : GoodIn wsX7_isNarrower (wsV RX7 187 RX7 yX7_leastOf wsX7_leastOf) := goodIn_app (goodIn_of _ (by decide +kernel)) ggX7_isNarrower_X7_leastOf
set_option maxRecDepth 20000 in
theorem ggX7_isNarrower_X7_apart : GoodIn wsX7_isNarrower wsX7_apart := goodIn_r _ [13] (by decide +kernel) (by decide +kernel)
set_option maxRecDepth 20000 in
theorem gX7_isNarrower_X7_apart : GoodIn wsX7_isNarrower (va_wsS RX7 144 yX7_apart wsX7_apart) := goodIn_app (goodIn_of _ (by decide +kernel)) ggX7_isNarrower_X7_apart
theorem dX7_isNarrower_0 : decode cX7_isNarrower 0 = .ok (.aload_n 0, 1) := by decide +kernel
theorem dX7_isNarrower_1 : decode cX7_isNarrower 1 = .ok (.iload_n 1, 1) := by decide +kernel
theorem dX7_isNarrower_2 : decode cX7_isNarrower 2 = .ok (.iload_n 2, 1) := by decide +kernel
theorem dX7_isNarrower_3 : decode cX7_isNarrower 3 = .ok (.invokevirtual 187, 3) := by decide +kernel
theorem dX7_isNarrower_6 : decode cX7_isNarrower 6 = .ok (.istore_n 3, 1) := by decide +kernel
theorem dX7_isNarrower_7 : decode cX7_isNarrower 7 = .ok (.aload_n 0, 1) := by decide +kernel
theorem dX7_isNarrower_8 : decode cX7_isNarrower 8 = .ok (.getfield 46, 3) := by decide +kernel
theorem dX7_isNarrower_11 : decode cX7_isNarrower 11 = .ok (.iload_n 1, 1) := by decide +kernel
theorem dX7_isNarrower_12 : decode cX7_isNarrower 12 = .ok (.iload_n 2, 1) := by decide +kernel
theorem dX7_isNarrower_13 : decode cX7_isNarrower 13 = .ok (.invokestatic 144, 3) := by decide +kernel
theorem dX7_isNarrower_16 : decode cX7_isNarrower 16 = .ok (.iconst 2, 1) := by decide +kernel
theorem dX7_isNarrower_17 : decode cX7_isNarrower 17 = .ok (.aload_n 0, 1) := by decide +kernel
theorem dX7_isNarrower_18 : decode cX7_isNarrower 18 = .ok (.getfield 46, 3) := by decide +kernel
theorem dX7_isNarrower_21 : decode cX7_isNarrower 21 = .ok (.iconst 3, 1) := by decide +kernel
theorem dX7_isNarrower_22 : decode cX7_isNarrower 22 = .ok (.iaload, 1) := by decide +kernel
theorem dX7_isNarrower_23 : decode cX7_isNarrower 23 = .ok (.imul, 1) := by decide +kernel
theorem dX7_isNarrower_24 : decode cX7_isNarrower 24 = .ok (.isub, 1) := by decide +kernel
theorem dX7_isNarrower_25 : decode cX7_isNarrower 25 = .ok (.istore 4, 2) := by decide +kernel
theorem dX7_isNarrower_27 : decode cX7_isNarrower 27 = .ok (.aload_n 0, 1) := by decide +kernel
theorem dX7_isNarrower_28 : decode cX7_isNarrower 28 = .ok (.getfield 46, 3) := by decide +kernel
theorem dX7_isNarrower_31 : decode cX7_isNarrower 31 = .ok (.iload_n 1, 1) := by decide +kernel
theorem dX7_isNarrower_32 : decode cX7_isNarrower 32 = .ok (.iload_n 2, 1) := by decide +kernel
theorem dX7_isNarrower_33 : decode cX7_isNarrower 33 = .ok (.invokestatic 144, 3) := by decide +kernel
theorem dX7_isNarrower_36 : decode cX7_isNarrower 36 = .ok (.iconst 2, 1) := by decide +kernel
theorem dX7_isNarrower_37 : decode cX7_isNarrower 37 = .ok (.aload_n 0, 1) := by decide +kernel
theorem dX7_isNarrower_38 : decode cX7_isNarrower 38 = .ok (.getfield 46, 3) := by decide +kernel
theorem dX7_isNarrower_41 : decode cX7_isNarrower 41 = .ok (.iconst 3, 1) := by decide +kernel
theorem dX7_isNarrower_42 : decode cX7_isNarrower 42 = .ok (.iaload, 1) := by decide +kernel
theorem dX7_isNarrower_43 : decode cX7_isNarrower 43 = .ok (.imul, 1) := by decide +kernel
theorem dX7_isNarrower_44 : decode cX7_isNarrower 44 = .ok (.iadd, 1) := by decide +kernel
theorem dX7_isNarrower_45 : decode cX7_isNarrower 45 = .ok (.istore 5, 2) := by decide +kernel
theorem dX7_isNarrower_47 : decode cX7_isNarrower 47 = .ok (.iconst 0, 1) := by decide +kernel
theorem dX7_isNarrower_48 : decode cX7_isNarrower 48 = .ok (.istore 6, 2) := by decide +kernel
theorem dX7_isNarrower_50 : decode cX7_isNarrower 50 = .ok (.iload 4, 2) := by decide +kernel
theorem dX7_isNarrower_52 : decode cX7_isNarrower 52 = .ok (.aload_n 0, 1) := by decide +kernel
theorem dX7_isNarrower_53 : decode cX7_isNarrower 53 = .ok (.getfield 71, 3) := by decide +kernel
theorem dX7_isNarrower_56 : decode cX7_isNarrower 56 = .ok (.iconst 0, 1) := by decide +kernel
theorem dX7_isNarrower_57 : decode cX7_isNarrower 57 = .ok (.iaload, 1) := by decide +kernel
theorem dX7_isNarrower_58 : decode cX7_isNarrower 58 = .ok (.imul, 1) := by decide +kernel
theorem dX7_isNarrower_59 : decode cX7_isNarrower 59 = .ok (.aload_n 0, 1) := by decide +kernel
theorem dX7_isNarrower_60 : decode cX7_isNarrower 60 = .ok (.getfield 68, 3) := by decide +kernel
theorem dX7_isNarrower_63 : decode cX7_isNarrower 63 = .ok (.iconst 0, 1) := by decide +kernel
theorem dX7_isNarrower_64 : decode cX7_isNarrower 64 = .ok (.iaload, 1) := by decide +kernel
theorem dX7_isNarrower_65 : decode cX7_isNarrower 65 = .ok (.iload_n 3, 1) := by decide +kernel
theorem dX7_isNarrower_66 : decode cX7_isNarrower 66 = .ok (.imul, 1) := by decide +kernel
theorem dX7_isNarrower_67 : decode cX7_isNarrower 67 = .ok (.if_icmp .le 21, 3) := by decide +kernel
theorem dX7_isNarrower_70 : decode cX7_isNarrower 70 = .ok (.aload_n 0, 1) := by decide +kernel
theorem dX7_isNarrower_71 : decode cX7_isNarrower 71 = .ok (.getfield 68, 3) := by decide +kernel
theorem dX7_isNarrower_74 : decode cX7_isNarrower 74 = .ok (.iconst 0, 1) := by decide +kernel
theorem dX7_isNarrower_75 : decode cX7_isNarrower 75 = .ok (.iload 4, 2) := by decide +kernel
theorem dX7_isNarrower_77 : decode cX7_isNarrower 77 = .ok (.iastore, 1) := by decide +kernel
theorem dX7_isNarrower_78 : decode cX7_isNarrower 78 = .ok (.aload_n 0, 1) := by decide +kernel
theorem dX7_isNarrower_79 : decode cX7_isNarrower 79 = .ok (.getfield 71, 3) := by decide +kernel
theorem dX7_isNarrower_82 : decode cX7_isNarrower 82 = .ok (.iconst 0, 1) := by decide +kernel
theorem dX7_isNarrower_83 : decode cX7_isNarrower 83 = .ok (.iload_n 3, 1) := by decide +kernel
theorem dX7_isNarrower_84 : decode cX7_isNarrower 84 = .ok (.iastore, 1) := by decide +kernel
theorem dX7_isNarrower_85 : decode cX7_isNarrower 85 = .ok (.iconst 1, 1) := by decide +kernel
theorem dX7_isNarrower_86 : decode cX7_isNarrower 86 = .ok (.istore 6, 2) := by decide +kernel
theorem dX7_isNarrower_88 : decode cX7_isNarrower 88 = .ok (.iload 5, 2) := by decide +kernel
theorem dX7_isNarrower_90 : decode cX7_isNarrower 90 = .ok (.aload_n 0, 1) := by decide +kernel
theorem dX7_isNarrower_91 : decode cX7_isNarrower 91 = .ok (.getfield 77, 3) := by decide +kernel
theorem dX7_isNarrower_94 : decode cX7_isNarrower 94 = .ok (.iconst 0, 1) := by decide +kernel
theorem dX7_isNarrower_95 : decode cX7_isNarrower 95 = .ok (.iaload, 1) := by decide +kernel
theorem dX7_isNarrower_96 : decode cX7_isNarrower 96 = .ok (.imul, 1) := by decide +kernel
theorem dX7_isNarrower_97 : decode cX7_isNarrower 97 = .ok (.aload_n 0, 1) := by decide +kernel
theorem dX7_isNarrower_98 : decode cX7_isNarrower 98 = .ok (.getfield 74, 3) := by decide +kernel
theorem dX7_isNarrower_101 : decode cX7_isNarrower 101 = .ok (.iconst 0, 1) := by decide +kernel
theorem dX7_isNarrower_102 : decode cX7_isNarrower 102 = .ok (.iaload, 1) := by decide +kernel
theorem dX7_isNarrower_103 : decode cX7_isNarrower 103 = .ok (.iload_n 3, 1) := by decide +kernel
theorem dX7_isNarrower_104 : decode cX7_isNarrower 104 = .ok (.imul, 1) := by decide +kernel
theorem dX7_isNarrower_105 : decode cX7_isNarrower 105 = .ok (.if_icmp .ge 21, 3) := by decide +kernel
theorem dX7_isNarrower_108 : decode cX7_isNarrower 108 = .ok (.aload_n 0, 1) := by decide +kernel
theorem dX7_isNarrower_109 : decode cX7_isNarrower 109 = .ok (.getfield 74, 3) := by decide +kernel
theorem dX7_isNarrower_112 : decode cX7_isNarrower 112 = .ok (.iconst 0, 1) := by decide +kernel
theorem dX7_isNarrower_113 : decode cX7_isNarrower 113 = .ok (.iload 5, 2) := by decide +kernel
theorem dX7_isNarrower_115 : decode cX7_isNarrower 115 = .ok (.iastore, 1) := by decide +kernel
theorem dX7_isNarrower_116 : decode cX7_isNarrower 116 = .ok (.aload_n 0, 1) := by decide +kernel
theorem dX7_isNarrower_117 : decode cX7_isNarrower 117 = .ok (.getfield 77, 3) := by decide +kernel
theorem dX7_isNarrower_120 : decode cX7_isNarrower 120 = .ok (.iconst 0, 1) := by decide +kernel
theorem dX7_isNarrower_121 : decode cX7_isNarrower 121 = .ok (.iload_n 3, 1) := by decide +kernel
theorem dX7_isNarrower_122 : decode cX7_isNarrower 122 = .ok (.iastore, 1) := by decide +kernel
theorem dX7_isNarrower_123 : decode cX7_isNarrower 123 = .ok (.iconst 1, 1) := by decide +kernel
theorem dX7_isNarrower_124 : decode cX7_isNarrower 124 = .ok (.istore 6, 2) := by decide +kernel
theorem dX7_isNarrower_126 : decode cX7_isNarrower 126 = .ok (.iload 6, 2) := by decide +kernel
theorem dX7_isNarrower_128 : decode cX7_isNarrower 128 = .ok (.ireturn, 1) := by decide +kernel
set_option maxRecDepth 20000 in
theorem ggX7_narrow_X7_begin : GoodIn wsX7_narrow wsX7_begin := goodIn_r _ [11, 12, 13, 14, 3, 6, 5, 4, 15, 16, 10, 17, 37, 38, 39, 40, 41, 42, 43, 44, 45, 46, 47, 48, 49, 50, 51, 52, 53, 54, 55, 56, 57, 58, 59] (by decide +kernel) (by decide +kernel)
set_option maxRecDepth 20000 in
theorem gX7_narrow_X7_begin : GoodIn wsX7_narrow (wsV RX7 154 RX7 yX7_begin wsX7_begin) := goodIn_app (goodIn_of _ (by decide +kernel)) ggX7_narrow_X7_begin
set_option maxRecDepth 20000 in
theorem ggX7_narrow_X7_countsOf : GoodIn wsX7_narrow wsX7_countsOf := goodIn_r _ [21, 22, 23, 24, 10, 25, 1, 6, 3, 26, 27, 28, 29, 30, 31, 32, 4, 5, 37, 38, 39, 40, 41, 42, 43, 44, 45, 46, 47, 48, 49, 50, 51, 52, 53, 54, 55, 56, 57, 58, 59] (by decide +kernel) (by decide +kernel)
set_option maxRecDepth 20000 in
theorem gX7_narrow_X7_countsOf : GoodIn wsX7_narrow (wsV RX7 194 RX7 yX7_countsOf wsX7_countsOf) := goodIn_app (goodIn_of _ (by decide +kernel)) ggX7_narrow_X7_countsOf
set_option maxRecDepth 20000 in
theorem ggX7_narrow_X7_isNarrower : GoodIn wsX7_narrow wsX7_isNarrower := goodIn_r _ [36, 1, 6, 3, 4, 5, 29, 30, 31, 10, 32, 26, 27, 28, 37, 38, 39, 40, 41, 42, 43, 44, 45, 46, 47, 48, 49, 50, 51, 52, 53, 54, 55, 56, 57, 58, 59] (by decide +kernel) (by decide +kernel)
set_option maxRecDepth 20000 in
theorem gX7_narrow_X7_isNarrower : GoodIn wsX7_narrow (wsV RX7 197 RX7 yX7_isNarrower wsX7_isNarrower) := goodIn_app (goodIn_of _ (by decide +kernel)) ggX7_narrow_X7_isNarrower
theorem dX7_narrow_0 : decode cX7_narrow 0 = .ok (.aload_n 0, 1) := by decide +kernel
theorem dX7_narrow_1 : decode cX7_narrow 1 = .ok (.aload_n 0, 1) := by decide +kernel
theorem dX7_narrow_2 : decode cX7_narrow 2 = .ok (.getfield 46, 3) := by decide +kernel
theorem dX7_narrow_5 : decode cX7_narrow 5 = .ok (.invokevirtual 154, 3) := by decide +kernel
theorem dX7_narrow_8 : decode cX7_narrow 8 = .ok (.aload_n 0, 1) := by decide +kernel
theorem dX7_narrow_9 : decode cX7_narrow 9 = .ok (.iconst 0, 1) := by decide +kernel
theorem dX7_narrow_10 : decode cX7_narrow 10 = .ok (.putfield 190, 3) := by decide +kernel
theorem dX7_narrow_13 : decode cX7_narrow 13 = .ok (.iconst 1, 1) := by decide +kernel
theorem dX7_narrow_14 : decode cX7_narrow 14 = .ok (.istore_n 1, 1) := by decide +kernel
theorem dX7_narrow_15 : decode cX7_narrow 15 = .ok (.iload_n 1, 1) := by decide +kernel
theorem dX7_narrow_16 : decode cX7_narrow 16 = .ok (.ifCond .eq 143, 3) := by decide +kernel
theorem dX7_narrow_19 : decode cX7_narrow 19 = .ok (.aload_n 0, 1) := by decide +kernel
theorem dX7_narrow_20 : decode cX7_narrow 20 = .ok (.getfield 190, 3) := by decide +kernel
theorem dX7_narrow_23 : decode cX7_narrow 23 = .ok (.ifCond .ne 136, 3) := by decide +kernel
theorem dX7_narrow_26 : decode cX7_narrow 26 = .ok (.iconst 0, 1) := by decide +kernel
theorem dX7_narrow_27 : decode cX7_narrow 27 = .ok (.istore_n 1, 1) := by decide +kernel
theorem dX7_narrow_28 : decode cX7_narrow 28 = .ok (.iconst 0, 1) := by decide +kernel
theorem dX7_narrow_29 : decode cX7_narrow 29 = .ok (.istore_n 2, 1) := by decide +kernel
theorem dX7_narrow_30 : decode cX7_narrow 30 = .ok (.iload_n 2, 1) := by decide +kernel
theorem dX7_narrow_31 : decode cX7_narrow 31 = .ok (.aload_n 0, 1) := by decide +kernel
theorem dX7_narrow_32 : decode cX7_narrow 32 = .ok (.getfield 46, 3) := by decide +kernel
theorem dX7_narrow_35 : decode cX7_narrow 35 = .ok (.iconst 0, 1) := by decide +kernel
theorem dX7_narrow_36 : decode cX7_narrow 36 = .ok (.iaload, 1) := by decide +kernel
theorem dX7_narrow_37 : decode cX7_narrow 37 = .ok (.if_icmp .ge 119, 3) := by decide +kernel
theorem dX7_narrow_40 : decode cX7_narrow 40 = .ok (.aload_n 0, 1) := by decide +kernel
theorem dX7_narrow_41 : decode cX7_narrow 41 = .ok (.getfield 190, 3) := by decide +kernel
theorem dX7_narrow_44 : decode cX7_narrow 44 = .ok (.ifCond .ne 112, 3) := by decide +kernel
theorem dX7_narrow_47 : decode cX7_narrow 47 = .ok (.iload_n 2, 1) := by decide +kernel
theorem dX7_narrow_48 : decode cX7_narrow 48 = .ok (.iconst 1, 1) := by decide +kernel
theorem dX7_narrow_49 : decode cX7_narrow 49 = .ok (.iadd, 1) := by decide +kernel
theorem dX7_narrow_50 : decode cX7_narrow 50 = .ok (.istore_n 3, 1) := by decide +kernel
theorem dX7_narrow_51 : decode cX7_narrow 51 = .ok (.iload_n 3, 1) := by decide +kernel
theorem dX7_narrow_52 : decode cX7_narrow 52 = .ok (.aload_n 0, 1) := by decide +kernel
theorem dX7_narrow_53 : decode cX7_narrow 53 = .ok (.getfield 46, 3) := by decide +kernel
theorem dX7_narrow_56 : decode cX7_narrow 56 = .ok (.iconst 0, 1) := by decide +kernel
theorem dX7_narrow_57 : decode cX7_narrow 57 = .ok (.iaload, 1) := by decide +kernel
theorem dX7_narrow_58 : decode cX7_narrow 58 = .ok (.if_icmp .ge 92, 3) := by decide +kernel
theorem dX7_narrow_61 : decode cX7_narrow 61 = .ok (.aload_n 0, 1) := by decide +kernel
theorem dX7_narrow_62 : decode cX7_narrow 62 = .ok (.getfield 190, 3) := by decide +kernel
theorem dX7_narrow_65 : decode cX7_narrow 65 = .ok (.ifCond .ne 85, 3) := by decide +kernel
theorem dX7_narrow_68 : decode cX7_narrow 68 = .ok (.aload_n 0, 1) := by decide +kernel
theorem dX7_narrow_69 : decode cX7_narrow 69 = .ok (.iload_n 2, 1) := by decide +kernel
theorem dX7_narrow_70 : decode cX7_narrow 70 = .ok (.iload_n 3, 1) := by decide +kernel
theorem dX7_narrow_71 : decode cX7_narrow 71 = .ok (.invokevirtual 194, 3) := by decide +kernel
theorem dX7_narrow_74 : decode cX7_narrow 74 = .ok (.istore 4, 2) := by decide +kernel
theorem dX7_narrow_76 : decode cX7_narrow 76 = .ok (.iload 4, 2) := by decide +kernel
theorem dX7_narrow_78 : decode cX7_narrow 78 = .ok (.iconst 1, 1) := by decide +kernel
theorem dX7_narrow_79 : decode cX7_narrow 79 = .ok (.if_icmp .ne 12, 3) := by decide +kernel
theorem dX7_narrow_82 : decode cX7_narrow 82 = .ok (.aload_n 0, 1) := by decide +kernel
theorem dX7_narrow_83 : decode cX7_narrow 83 = .ok (.iload_n 2, 1) := by decide +kernel
theorem dX7_narrow_84 : decode cX7_narrow 84 = .ok (.iload_n 3, 1) := by decide +kernel
theorem dX7_narrow_85 : decode cX7_narrow 85 = .ok (.invokevirtual 197, 3) := by decide +kernel
theorem dX7_narrow_88 : decode cX7_narrow 88 = .ok (.ifCond .ne 7, 3) := by decide +kernel
theorem dX7_narrow_91 : decode cX7_narrow 91 = .ok (.iload_n 1, 1) := by decide +kernel
theorem dX7_narrow_92 : decode cX7_narrow 92 = .ok (.ifCond .eq 7, 3) := by decide +kernel
theorem dX7_narrow_95 : decode cX7_narrow 95 = .ok (.iconst 1, 1) := by decide +kernel
theorem dX7_narrow_96 : decode cX7_narrow 96 = .ok (.goto 4, 3) := by decide +kernel
theorem dX7_narrow_99 : decode cX7_narrow 99 = .ok (.iconst 0, 1) := by decide +kernel
theorem dX7_narrow_100 : decode cX7_narrow 100 = .ok (.istore_n 1, 1) := by decide +kernel
theorem dX7_narrow_101 : decode cX7_narrow 101 = .ok (.aload_n 0, 1) := by decide +kernel
theorem dX7_narrow_102 : decode cX7_narrow 102 = .ok (.iload 4, 2) := by decide +kernel
theorem dX7_narrow_104 : decode cX7_narrow 104 = .ok (.ifCond .eq 32, 3) := by decide +kernel
theorem dX7_narrow_107 : decode cX7_narrow 107 = .ok (.aload_n 0, 1) := by decide +kernel
theorem dX7_narrow_108 : decode cX7_narrow 108 = .ok (.getfield 68, 3) := by decide +kernel
theorem dX7_narrow_111 : decode cX7_narrow 111 = .ok (.iconst 0, 1) := by decide +kernel
theorem dX7_narrow_112 : decode cX7_narrow 112 = .ok (.iaload, 1) := by decide +kernel
theorem dX7_narrow_113 : decode cX7_narrow 113 = .ok (.aload_n 0, 1) := by decide +kernel
theorem dX7_narrow_114 : decode cX7_narrow 114 = .ok (.getfield 77, 3) := by decide +kernel
theorem dX7_narrow_117 : decode cX7_narrow 117 = .ok (.iconst 0, 1) := by decide +kernel
theorem dX7_narrow_118 : decode cX7_narrow 118 = .ok (.iaload, 1) := by decide +kernel
theorem dX7_narrow_119 : decode cX7_narrow 119 = .ok (.imul, 1) := by decide +kernel
theorem dX7_narrow_120 : decode cX7_narrow 120 = .ok (.aload_n 0, 1) := by decide +kernel
theorem dX7_narrow_121 : decode cX7_narrow 121 = .ok (.getfield 74, 3) := by decide +kernel
theorem dX7_narrow_124 : decode cX7_narrow 124 = .ok (.iconst 0, 1) := by decide +kernel
theorem dX7_narrow_125 : decode cX7_narrow 125 = .ok (.iaload, 1) := by decide +kernel
theorem dX7_narrow_126 : decode cX7_narrow 126 = .ok (.aload_n 0, 1) := by decide +kernel
theorem dX7_narrow_127 : decode cX7_narrow 127 = .ok (.getfield 71, 3) := by decide +kernel
theorem dX7_narrow_130 : decode cX7_narrow 130 = .ok (.iconst 0, 1) := by decide +kernel
theorem dX7_narrow_131 : decode cX7_narrow 131 = .ok (.iaload, 1) := by decide +kernel
theorem dX7_narrow_132 : decode cX7_narrow 132 = .ok (.imul, 1) := by decide +kernel
theorem dX7_narrow_133 : decode cX7_narrow 133 = .ok (.if_icmp .le 7, 3) := by decide +kernel
theorem dX7_narrow_136 : decode cX7_narrow 136 = .ok (.iconst 1, 1) := by decide +kernel
theorem dX7_narrow_137 : decode cX7_narrow 137 = .ok (.goto 4, 3) := by decide +kernel
theorem dX7_narrow_140 : decode cX7_narrow 140 = .ok (.iconst 0, 1) := by decide +kernel
theorem dX7_narrow_141 : decode cX7_narrow 141 = .ok (.putfield 190, 3) := by decide +kernel
theorem dX7_narrow_144 : decode cX7_narrow 144 = .ok (.iinc 3 1, 3) := by decide +kernel
theorem dX7_narrow_147 : decode cX7_narrow 147 = .ok (.goto (-96), 3) := by decide +kernel
theorem dX7_narrow_150 : decode cX7_narrow 150 = .ok (.iinc 2 1, 3) := by decide +kernel
theorem dX7_narrow_153 : decode cX7_narrow 153 = .ok (.goto (-123), 3) := by decide +kernel
theorem dX7_narrow_156 : decode cX7_narrow 156 = .ok (.goto (-141), 3) := by decide +kernel
theorem dX7_narrow_159 : decode cX7_narrow 159 = .ok (.return_, 1) := by decide +kernel
set_option maxRecDepth 20000 in
theorem ggX7_counts_X7_isArrival : GoodIn wsX7_counts wsX7_isArrival := goodIn_r _ [9, 4, 10, 11, 8, 12, 50, 51, 52, 53, 54, 55, 56, 57, 58, 59, 60, 61, 62, 63, 64, 65, 66, 67, 68, 69, 70, 71, 72] (by decide +kernel) (by decide +kernel)
set_option maxRecDepth 20000 in
theorem gX7_counts_X7_isArrival : GoodIn wsX7_counts (wsV RX7 119 RX7 yX7_isArrival wsX7_isArrival) := goodIn_app (goodIn_of _ (by decide +kernel)) ggX7_counts_X7_isArrival
set_option maxRecDepth 20000 in
theorem ggX7_counts_X7_in : GoodIn wsX7_counts wsX7_in := goodIn_r _ [12] (by decide +kernel) (by decide +kernel)
set_option maxRecDepth 20000 in
theorem gX7_counts_X7_in : GoodIn wsX7_counts (va_wsS RX7 9 yX7_in wsX7_in) := goodIn_app (goodIn_of _ (by decide +kernel)) ggX7_counts_X7_in
set_option maxRecDepth 20000 in
theorem ggX7_counts_X7_narrow : GoodIn wsX7_counts wsX7_narrow := goodIn_r _ [16, 4, 3, 17, 18, 19, 20, 21, 22, 23, 8, 24, 25, 26, 27, 28, 29, 30, 31, 32, 33, 34, 35, 36, 37, 38, 39, 40, 41, 42, 43, 44, 45, 46, 47, 48, 49, 50, 51, 52, 53, 54, 55, 56, 57, 58, 59, 60, 61, 62, 63, 64, 65, 66, 67, 68, 69, 70, 71, 72] (by decide +kernel) (by decide +kernel)
set_option maxRecDepth 20000 in
theorem gX7_counts_X7_narrow : GoodIn wsX7_counts (wsV RX7 200 RX7 yX7_narrow wsX7_narrow) := goodIn_app (goodIn_of _ (by decide +kernel)) ggX7_counts_X7_narrow
set_option maxRecDepth 20000 in
theorem ggX7_counts_X7_begin : GoodIn wsX7_counts wsX7_begin := goodIn_r _ [24, 25, 26, 27, 17, 20, 19, 18, 28, 29, 8, 30, 50, 51, 52, 53, 54, 55, 56, 57, 58, 59, 60, 61, 62, 63, 64, 65, 66, 67, 68, 69, 70, 71, 72] (by decide +kernel) (by decide +kernel)
set_option maxRecDepth 20000 in
theorem gX7_counts_X7_begin : GoodIn wsX7_counts (wsV RX7 154 RX7 yX7_begin wsX7_begin) := goodIn_app (goodIn_of _ (by decide +kernel)) ggX7_counts_X7_begin
set_option maxRecDepth 20000 in
theorem ggX7_counts_X7_countsOf : GoodIn wsX7_counts wsX7_countsOf := goodIn_r _ [34, 35, 36, 37, 8, 38, 4, 20, 17, 39, 40, 41, 42, 43, 44, 45, 18, 19, 50, 51, 52, 53, 54, 55, 56, 57, 58, 59, 60, 61, 62, 63, 64, 65, 66, 67, 68, 69, 70, 71, 72] (by decide +kernel) (by decide +kernel)
set_option maxRecDepth 20000 in
theorem gX7_counts_X7_countsOf : GoodIn wsX7_counts (wsV RX7 194 RX7 yX7_countsOf wsX7_countsOf) := goodIn_app (goodIn_of _ (by decide +kernel)) ggX7_counts_X7_countsOf
set_option maxRecDepth 20000 in
theorem ggX7_counts_X7_leastOf : GoodIn wsX7_counts wsX7_leastOf := goodIn_r _ [45, 4, 18, 19, 39, 40, 8, 41, 50, 51, 52, 53, 54, 55, 56, 57, 58, 59, 60, 61, 62, 63, 64, 65, 66, 67, 68, 69, 70, 71, 72] (by decide +kernel) (by decide +kernel)
set_option maxRecDepth 20000 in
theorem gX7_counts_X7_leastOf : GoodIn wsX7_counts (wsV RX7 187 RX7 yX7_leastOf wsX7_leastOf) := goodIn_app (goodIn_of _ (by decide +kernel)) ggX7_counts_X7_leastOf
set_option maxRecDepth 20000 in
theorem ggX7_counts_X7_greatestOf : GoodIn wsX7_counts wsX7_greatestOf := goodIn_r _ [38, 4, 20, 17, 39, 40, 8, 41, 50, 51, 52, 53, 54, 55, 56, 57, 58, 59, 60, 61, 62, 63, 64, 65, 66, 67, 68, 69, 70, 71, 72] (by decide +kernel) (by decide +kernel)
set_option maxRecDepth 20000 in
theorem gX7_counts_X7_greatestOf : GoodIn wsX7_counts (wsV RX7 184 RX7 yX7_greatestOf wsX7_greatestOf) := goodIn_app (goodIn_of _ (by decide +kernel)) ggX7_counts_X7_greatestOf
theorem dX7_counts_0 : decode cX7_counts 0 = .ok (.aload_n 0, 1) := by decide +kernel
theorem dX7_counts_1 : decode cX7_counts 1 = .ok (.iconst 0, 1) := by decide +kernel
theorem dX7_counts_2 : decode cX7_counts 2 = .ok (.putfield 1, 3) := by decide +kernel
theorem dX7_counts_5 : decode cX7_counts 5 = .ok (.aload_n 0, 1) := by decide +kernel
theorem dX7_counts_6 : decode cX7_counts 6 = .ok (.iload_n 1, 1) := by decide +kernel
theorem dX7_counts_7 : decode cX7_counts 7 = .ok (.invokevirtual 119, 3) := by decide +kernel
theorem dX7_counts_10 : decode cX7_counts 10 = .ok (.ifCond .eq 39, 3) := by decide +kernel
theorem dX7_counts_13 : decode cX7_counts 13 = .ok (.aload_n 0, 1) := by decide +kernel
theorem dX7_counts_14 : decode cX7_counts 14 = .ok (.iload_n 2, 1) := by decide +kernel
theorem dX7_counts_15 : decode cX7_counts 15 = .ok (.invokevirtual 119, 3) := by decide +kernel
theorem dX7_counts_18 : decode cX7_counts 18 = .ok (.ifCond .eq 31, 3) := by decide +kernel
theorem dX7_counts_21 : decode cX7_counts 21 = .ok (.iload_n 1, 1) := by decide +kernel
theorem dX7_counts_22 : decode cX7_counts 22 = .ok (.iload_n 2, 1) := by decide +kernel
theorem dX7_counts_23 : decode cX7_counts 23 = .ok (.if_icmp .ge 26, 3) := by decide +kernel
theorem dX7_counts_26 : decode cX7_counts 26 = .ok (.iload_n 3, 1) := by decide +kernel
theorem dX7_counts_27 : decode cX7_counts 27 = .ok (.i2l, 1) := by decide +kernel
theorem dX7_counts_28 : decode cX7_counts 28 = .ok (.lconst 0, 1) := by decide +kernel
theorem dX7_counts_29 : decode cX7_counts 29 = .ok (.lconst 1, 1) := by decide +kernel
theorem dX7_counts_30 : decode cX7_counts 30 = .ok (.invokestatic 9, 3) := by decide +kernel
theorem dX7_counts_33 : decode cX7_counts 33 = .ok (.ifCond .eq 16, 3) := by decide +kernel
theorem dX7_counts_36 : decode cX7_counts 36 = .ok (.iload 4, 2) := by decide +kernel
theorem dX7_counts_38 : decode cX7_counts 38 = .ok (.i2l, 1) := by decide +kernel
theorem dX7_counts_39 : decode cX7_counts 39 = .ok (.lconst 0, 1) := by decide +kernel
theorem dX7_counts_40 : decode cX7_counts 40 = .ok (.ldc2_w 178, 3) := by decide +kernel
theorem dX7_counts_43 : decode cX7_counts 43 = .ok (.invokestatic 9, 3) := by decide +kernel
theorem dX7_counts_46 : decode cX7_counts 46 = .ok (.ifCond .ne 5, 3) := by decide +kernel
theorem dX7_counts_49 : decode cX7_counts 49 = .ok (.iconst (-1), 1) := by decide +kernel
theorem dX7_counts_50 : decode cX7_counts 50 = .ok (.ireturn, 1) := by decide +kernel
theorem dX7_counts_51 : decode cX7_counts 51 = .ok (.iload_n 3, 1) := by decide +kernel
theorem dX7_counts_52 : decode cX7_counts 52 = .ok (.iconst 1, 1) := by decide +kernel
theorem dX7_counts_53 : decode cX7_counts 53 = .ok (.if_icmp .ne 17, 3) := by decide +kernel
theorem dX7_counts_56 : decode cX7_counts 56 = .ok (.aload_n 0, 1) := by decide +kernel
theorem dX7_counts_57 : decode cX7_counts 57 = .ok (.invokevirtual 200, 3) := by decide +kernel
theorem dX7_counts_60 : decode cX7_counts 60 = .ok (.aload_n 0, 1) := by decide +kernel
theorem dX7_counts_61 : decode cX7_counts 61 = .ok (.getfield 190, 3) := by decide +kernel
theorem dX7_counts_64 : decode cX7_counts 64 = .ok (.ifCond .eq 14, 3) := by decide +kernel
theorem dX7_counts_67 : decode cX7_counts 67 = .ok (.bipush (-2), 2) := by decide +kernel
theorem dX7_counts_69 : decode cX7_counts 69 = .ok (.ireturn, 1) := by decide +kernel
theorem dX7_counts_70 : decode cX7_counts 70 = .ok (.aload_n 0, 1) := by decide +kernel
theorem dX7_counts_71 : decode cX7_counts 71 = .ok (.aload_n 0, 1) := by decide +kernel
theorem dX7_counts_72 : decode cX7_counts 72 = .ok (.getfield 46, 3) := by decide +kernel
theorem dX7_counts_75 : decode cX7_counts 75 = .ok (.invokevirtual 154, 3) := by decide +kernel
theorem dX7_counts_78 : decode cX7_counts 78 = .ok (.aload_n 0, 1) := by decide +kernel
theorem dX7_counts_79 : decode cX7_counts 79 = .ok (.iload_n 1, 1) := by decide +kernel
theorem dX7_counts_80 : decode cX7_counts 80 = .ok (.iload_n 2, 1) := by decide +kernel
theorem dX7_counts_81 : decode cX7_counts 81 = .ok (.invokevirtual 194, 3) := by decide +kernel
theorem dX7_counts_84 : decode cX7_counts 84 = .ok (.istore 5, 2) := by decide +kernel
theorem dX7_counts_86 : decode cX7_counts 86 = .ok (.iload 4, 2) := by decide +kernel
theorem dX7_counts_88 : decode cX7_counts 88 = .ok (.ifCond .ne 8, 3) := by decide +kernel
theorem dX7_counts_91 : decode cX7_counts 91 = .ok (.iload 5, 2) := by decide +kernel
theorem dX7_counts_93 : decode cX7_counts 93 = .ok (.goto 34, 3) := by decide +kernel
theorem dX7_counts_96 : decode cX7_counts 96 = .ok (.iload 5, 2) := by decide +kernel
theorem dX7_counts_98 : decode cX7_counts 98 = .ok (.ifCond .ne 8, 3) := by decide +kernel
theorem dX7_counts_101 : decode cX7_counts 101 = .ok (.bipush (-9), 2) := by decide +kernel
theorem dX7_counts_103 : decode cX7_counts 103 = .ok (.goto 24, 3) := by decide +kernel
theorem dX7_counts_106 : decode cX7_counts 106 = .ok (.iload 4, 2) := by decide +kernel
theorem dX7_counts_108 : decode cX7_counts 108 = .ok (.iconst 1, 1) := by decide +kernel
theorem dX7_counts_109 : decode cX7_counts 109 = .ok (.if_icmp .ne 12, 3) := by decide +kernel
theorem dX7_counts_112 : decode cX7_counts 112 = .ok (.aload_n 0, 1) := by decide +kernel
theorem dX7_counts_113 : decode cX7_counts 113 = .ok (.iload_n 1, 1) := by decide +kernel
theorem dX7_counts_114 : decode cX7_counts 114 = .ok (.iload_n 2, 1) := by decide +kernel
theorem dX7_counts_115 : decode cX7_counts 115 = .ok (.invokevirtual 187, 3) := by decide +kernel
theorem dX7_counts_118 : decode cX7_counts 118 = .ok (.goto 9, 3) := by decide +kernel
theorem dX7_counts_121 : decode cX7_counts 121 = .ok (.aload_n 0, 1) := by decide +kernel
theorem dX7_counts_122 : decode cX7_counts 122 = .ok (.iload_n 1, 1) := by decide +kernel
theorem dX7_counts_123 : decode cX7_counts 123 = .ok (.iload_n 2, 1) := by decide +kernel
theorem dX7_counts_124 : decode cX7_counts 124 = .ok (.invokevirtual 184, 3) := by decide +kernel
theorem dX7_counts_127 : decode cX7_counts 127 = .ok (.ireturn, 1) := by decide +kernel
set_option maxRecDepth 20000 in
theorem ggX7_narrowed_X7_in : GoodIn wsX7_narrowed wsX7_in := goodIn_r _ [11] (by decide +kernel) (by decide +kernel)
set_option maxRecDepth 20000 in
theorem gX7_narrowed_X7_in : GoodIn wsX7_narrowed (va_wsS RX7 9 yX7_in wsX7_in) := goodIn_app (goodIn_of _ (by decide +kernel)) ggX7_narrowed_X7_in
set_option maxRecDepth 20000 in
theorem ggX7_narrowed_X7_narrow : GoodIn wsX7_narrowed wsX7_narrow := goodIn_r _ [15, 16, 3, 4, 7, 6, 5, 17, 18, 19, 10, 20, 21, 22, 23, 24, 25, 26, 27, 28, 29, 30, 31, 32, 33, 34, 35, 36, 37, 38, 39, 40, 41, 42, 43, 44, 45, 55, 56, 57, 58, 59, 60, 61, 62, 63, 64, 65, 66, 67, 68, 69, 70, 71, 72, 73, 74, 75, 76, 77] (by decide +kernel) (by decide +kernel)
set_option maxRecDepth 20000 in
theorem gX7_narrowed_X7_narrow : GoodIn wsX7_narrowed (wsV RX7 200 RX7 yX7_narrow wsX7_narrow) := goodIn_app (goodIn_of _ (by decide +kernel)) ggX7_narrowed_X7_narrow
set_option maxRecDepth 20000 in
theorem ggX7_narrowed_X7_ends : GoodIn wsX7_narrowed wsX7_ends := goodIn_r _ [48, 49, 50, 10, 51, 52, 53, 54] (by decide +kernel) (by decide +kernel)
set_option maxRecDepth 20000 in
theorem gX7_narrowed_X7_ends : GoodIn wsX7_narrowed (va_wsS RX7 174 yX7_ends wsX7_ends) := goodIn_app (goodIn_of _ (by decide +kernel)) ggX7_narrowed_X7_ends
theorem dX7_narrowed_0 : decode cX7_narrowed 0 = .ok (.aload_n 0, 1) := by decide +kernel
theorem dX7_narrowed_1 : decode cX7_narrowed 1 = .ok (.iconst 0, 1) := by decide +kernel
theorem dX7_narrowed_2 : decode cX7_narrowed 2 = .ok (.putfield 1, 3) := by decide +kernel
theorem dX7_narrowed_5 : decode cX7_narrowed 5 = .ok (.iload_n 1, 1) := by decide +kernel
theorem dX7_narrowed_6 : decode cX7_narrowed 6 = .ok (.i2l, 1) := by decide +kernel
theorem dX7_narrowed_7 : decode cX7_narrowed 7 = .ok (.lconst 0, 1) := by decide +kernel
theorem dX7_narrowed_8 : decode cX7_narrowed 8 = .ok (.ldc2_w 172, 3) := by decide +kernel
theorem dX7_narrowed_11 : decode cX7_narrowed 11 = .ok (.invokestatic 9, 3) := by decide +kernel
theorem dX7_narrowed_14 : decode cX7_narrowed 14 = .ok (.ifCond .ne 5, 3) := by decide +kernel
theorem dX7_narrowed_17 : decode cX7_narrowed 17 = .ok (.iconst (-1), 1) := by decide +kernel
theorem dX7_narrowed_18 : decode cX7_narrowed 18 = .ok (.ireturn, 1) := by decide +kernel
theorem dX7_narrowed_19 : decode cX7_narrowed 19 = .ok (.aload_n 0, 1) := by decide +kernel
theorem dX7_narrowed_20 : decode cX7_narrowed 20 = .ok (.invokevirtual 200, 3) := by decide +kernel
theorem dX7_narrowed_23 : decode cX7_narrowed 23 = .ok (.aload_n 0, 1) := by decide +kernel
theorem dX7_narrowed_24 : decode cX7_narrowed 24 = .ok (.getfield 190, 3) := by decide +kernel
theorem dX7_narrowed_27 : decode cX7_narrowed 27 = .ok (.ifCond .eq 8, 3) := by decide +kernel
theorem dX7_narrowed_30 : decode cX7_narrowed 30 = .ok (.bipush (-9), 2) := by decide +kernel
theorem dX7_narrowed_32 : decode cX7_narrowed 32 = .ok (.goto 31, 3) := by decide +kernel
theorem dX7_narrowed_35 : decode cX7_narrowed 35 = .ok (.aload_n 0, 1) := by decide +kernel
theorem dX7_narrowed_36 : decode cX7_narrowed 36 = .ok (.getfield 68, 3) := by decide +kernel
theorem dX7_narrowed_39 : decode cX7_narrowed 39 = .ok (.iconst 0, 1) := by decide +kernel
theorem dX7_narrowed_40 : decode cX7_narrowed 40 = .ok (.iaload, 1) := by decide +kernel
theorem dX7_narrowed_41 : decode cX7_narrowed 41 = .ok (.aload_n 0, 1) := by decide +kernel
theorem dX7_narrowed_42 : decode cX7_narrowed 42 = .ok (.getfield 71, 3) := by decide +kernel
theorem dX7_narrowed_45 : decode cX7_narrowed 45 = .ok (.iconst 0, 1) := by decide +kernel
theorem dX7_narrowed_46 : decode cX7_narrowed 46 = .ok (.iaload, 1) := by decide +kernel
theorem dX7_narrowed_47 : decode cX7_narrowed 47 = .ok (.aload_n 0, 1) := by decide +kernel
theorem dX7_narrowed_48 : decode cX7_narrowed 48 = .ok (.getfield 74, 3) := by decide +kernel
theorem dX7_narrowed_51 : decode cX7_narrowed 51 = .ok (.iconst 0, 1) := by decide +kernel
theorem dX7_narrowed_52 : decode cX7_narrowed 52 = .ok (.iaload, 1) := by decide +kernel
theorem dX7_narrowed_53 : decode cX7_narrowed 53 = .ok (.aload_n 0, 1) := by decide +kernel
theorem dX7_narrowed_54 : decode cX7_narrowed 54 = .ok (.getfield 77, 3) := by decide +kernel
theorem dX7_narrowed_57 : decode cX7_narrowed 57 = .ok (.iconst 0, 1) := by decide +kernel
theorem dX7_narrowed_58 : decode cX7_narrowed 58 = .ok (.iaload, 1) := by decide +kernel
theorem dX7_narrowed_59 : decode cX7_narrowed 59 = .ok (.iload_n 1, 1) := by decide +kernel
theorem dX7_narrowed_60 : decode cX7_narrowed 60 = .ok (.invokestatic 174, 3) := by decide +kernel
theorem dX7_narrowed_63 : decode cX7_narrowed 63 = .ok (.ireturn, 1) := by decide +kernel
set_option maxRecDepth 20000 in
theorem ggX7_keep_X7_in : GoodIn wsX7_keep wsX7_in := goodIn_r _ [8] (by decide +kernel) (by decide +kernel)
set_option maxRecDepth 20000 in
theorem gX7_keep_X7_in : GoodIn wsX7_keep (va_wsS RX7 9 yX7_in wsX7_in) := goodIn_app (goodIn_of _ (by decide +kernel)) ggX7_keep_X7_in
theorem dX7_keep_0 : decode cX7_keep 0 = .ok (.aload_n 0, 1) := by decide +kernel
theorem dX7_keep_1 : decode cX7_keep 1 = .ok (.iconst 0, 1) := by decide +kernel
theorem dX7_keep_2 : decode cX7_keep 2 = .ok (.putfield 1, 3) := by decide +kernel
theorem dX7_keep_5 : decode cX7_keep 5 = .ok (.iload_n 1, 1) := by decide +kernel
theorem dX7_keep_6 : decode cX7_keep 6 = .ok (.i2l, 1) := by decide +kernel
theorem dX7_keep_7 : decode cX7_keep 7 = .ok (.lconst 0, 1) := by decide +kernel
theorem dX7_keep_8 : decode cX7_keep 8 = .ok (.lconst 1, 1) := by decide +kernel
theorem dX7_keep_9 : decode cX7_keep 9 = .ok (.invokestatic 9, 3) := by decide +kernel
theorem dX7_keep_12 : decode cX7_keep 12 = .ok (.ifCond .ne 5, 3) := by decide +kernel
theorem dX7_keep_15 : decode cX7_keep 15 = .ok (.iconst (-1), 1) := by decide +kernel
theorem dX7_keep_16 : decode cX7_keep 16 = .ok (.ireturn, 1) := by decide +kernel
theorem dX7_keep_17 : decode cX7_keep 17 = .ok (.iconst 0, 1) := by decide +kernel
theorem dX7_keep_18 : decode cX7_keep 18 = .ok (.istore_n 2, 1) := by decide +kernel
theorem dX7_keep_19 : decode cX7_keep 19 = .ok (.iload_n 2, 1) := by decide +kernel
theorem dX7_keep_20 : decode cX7_keep 20 = .ok (.bipush 11, 2) := by decide +kernel
theorem dX7_keep_22 : decode cX7_keep 22 = .ok (.if_icmp .ge 26, 3) := by decide +kernel
theorem dX7_keep_25 : decode cX7_keep 25 = .ok (.aload_n 0, 1) := by decide +kernel
theorem dX7_keep_26 : decode cX7_keep 26 = .ok (.getfield 59, 3) := by decide +kernel
theorem dX7_keep_29 : decode cX7_keep 29 = .ok (.bipush 11, 2) := by decide +kernel
theorem dX7_keep_31 : decode cX7_keep 31 = .ok (.iload_n 1, 1) := by decide +kernel
theorem dX7_keep_32 : decode cX7_keep 32 = .ok (.imul, 1) := by decide +kernel
theorem dX7_keep_33 : decode cX7_keep 33 = .ok (.iload_n 2, 1) := by decide +kernel
theorem dX7_keep_34 : decode cX7_keep 34 = .ok (.iadd, 1) := by decide +kernel
theorem dX7_keep_35 : decode cX7_keep 35 = .ok (.aload_n 0, 1) := by decide +kernel
theorem dX7_keep_36 : decode cX7_keep 36 = .ok (.getfield 46, 3) := by decide +kernel
theorem dX7_keep_39 : decode cX7_keep 39 = .ok (.iload_n 2, 1) := by decide +kernel
theorem dX7_keep_40 : decode cX7_keep 40 = .ok (.iaload, 1) := by decide +kernel
theorem dX7_keep_41 : decode cX7_keep 41 = .ok (.iastore, 1) := by decide +kernel
theorem dX7_keep_42 : decode cX7_keep 42 = .ok (.iinc 2 1, 3) := by decide +kernel
theorem dX7_keep_45 : decode cX7_keep 45 = .ok (.goto (-26), 3) := by decide +kernel
theorem dX7_keep_48 : decode cX7_keep 48 = .ok (.aload_n 0, 1) := by decide +kernel
theorem dX7_keep_49 : decode cX7_keep 49 = .ok (.getfield 55, 3) := by decide +kernel
theorem dX7_keep_52 : decode cX7_keep 52 = .ok (.iload_n 1, 1) := by decide +kernel
theorem dX7_keep_53 : decode cX7_keep 53 = .ok (.iconst 1, 1) := by decide +kernel
theorem dX7_keep_54 : decode cX7_keep 54 = .ok (.bastore, 1) := by decide +kernel
theorem dX7_keep_55 : decode cX7_keep 55 = .ok (.aload_n 0, 1) := by decide +kernel
theorem dX7_keep_56 : decode cX7_keep 56 = .ok (.getfield 46, 3) := by decide +kernel
theorem dX7_keep_59 : decode cX7_keep 59 = .ok (.iconst 0, 1) := by decide +kernel
theorem dX7_keep_60 : decode cX7_keep 60 = .ok (.iaload, 1) := by decide +kernel
theorem dX7_keep_61 : decode cX7_keep 61 = .ok (.ireturn, 1) := by decide +kernel
set_option maxRecDepth 20000 in
theorem ggX7_back_X7_in : GoodIn wsX7_back wsX7_in := goodIn_r _ [9] (by decide +kernel) (by decide +kernel)
set_option maxRecDepth 20000 in
theorem gX7_back_X7_in : GoodIn wsX7_back (va_wsS RX7 9 yX7_in wsX7_in) := goodIn_app (goodIn_of _ (by decide +kernel)) ggX7_back_X7_in
theorem dX7_back_0 : decode cX7_back 0 = .ok (.aload_n 0, 1) := by decide +kernel
theorem dX7_back_1 : decode cX7_back 1 = .ok (.iconst 0, 1) := by decide +kernel
theorem dX7_back_2 : decode cX7_back 2 = .ok (.putfield 1, 3) := by decide +kernel
theorem dX7_back_5 : decode cX7_back 5 = .ok (.iload_n 1, 1) := by decide +kernel
theorem dX7_back_6 : decode cX7_back 6 = .ok (.i2l, 1) := by decide +kernel
theorem dX7_back_7 : decode cX7_back 7 = .ok (.lconst 0, 1) := by decide +kernel
theorem dX7_back_8 : decode cX7_back 8 = .ok (.lconst 1, 1) := by decide +kernel
theorem dX7_back_9 : decode cX7_back 9 = .ok (.invokestatic 9, 3) := by decide +kernel
theorem dX7_back_12 : decode cX7_back 12 = .ok (.ifCond .ne 5, 3) := by decide +kernel
theorem dX7_back_15 : decode cX7_back 15 = .ok (.iconst (-1), 1) := by decide +kernel
theorem dX7_back_16 : decode cX7_back 16 = .ok (.ireturn, 1) := by decide +kernel
theorem dX7_back_17 : decode cX7_back 17 = .ok (.aload_n 0, 1) := by decide +kernel
theorem dX7_back_18 : decode cX7_back 18 = .ok (.getfield 55, 3) := by decide +kernel
theorem dX7_back_21 : decode cX7_back 21 = .ok (.iload_n 1, 1) := by decide +kernel
theorem dX7_back_22 : decode cX7_back 22 = .ok (.baload, 1) := by decide +kernel
theorem dX7_back_23 : decode cX7_back 23 = .ok (.ifCond .ne 6, 3) := by decide +kernel
theorem dX7_back_26 : decode cX7_back 26 = .ok (.bipush (-2), 2) := by decide +kernel
theorem dX7_back_28 : decode cX7_back 28 = .ok (.ireturn, 1) := by decide +kernel
theorem dX7_back_29 : decode cX7_back 29 = .ok (.iconst 0, 1) := by decide +kernel
theorem dX7_back_30 : decode cX7_back 30 = .ok (.istore_n 2, 1) := by decide +kernel
theorem dX7_back_31 : decode cX7_back 31 = .ok (.iload_n 2, 1) := by decide +kernel
theorem dX7_back_32 : decode cX7_back 32 = .ok (.bipush 11, 2) := by decide +kernel
theorem dX7_back_34 : decode cX7_back 34 = .ok (.if_icmp .ge 26, 3) := by decide +kernel
theorem dX7_back_37 : decode cX7_back 37 = .ok (.aload_n 0, 1) := by decide +kernel
theorem dX7_back_38 : decode cX7_back 38 = .ok (.getfield 46, 3) := by decide +kernel
theorem dX7_back_41 : decode cX7_back 41 = .ok (.iload_n 2, 1) := by decide +kernel
theorem dX7_back_42 : decode cX7_back 42 = .ok (.aload_n 0, 1) := by decide +kernel
theorem dX7_back_43 : decode cX7_back 43 = .ok (.getfield 59, 3) := by decide +kernel
theorem dX7_back_46 : decode cX7_back 46 = .ok (.bipush 11, 2) := by decide +kernel
theorem dX7_back_48 : decode cX7_back 48 = .ok (.iload_n 1, 1) := by decide +kernel
theorem dX7_back_49 : decode cX7_back 49 = .ok (.imul, 1) := by decide +kernel
theorem dX7_back_50 : decode cX7_back 50 = .ok (.iload_n 2, 1) := by decide +kernel
theorem dX7_back_51 : decode cX7_back 51 = .ok (.iadd, 1) := by decide +kernel
theorem dX7_back_52 : decode cX7_back 52 = .ok (.iaload, 1) := by decide +kernel
theorem dX7_back_53 : decode cX7_back 53 = .ok (.iastore, 1) := by decide +kernel
theorem dX7_back_54 : decode cX7_back 54 = .ok (.iinc 2 1, 3) := by decide +kernel
theorem dX7_back_57 : decode cX7_back 57 = .ok (.goto (-26), 3) := by decide +kernel
theorem dX7_back_60 : decode cX7_back 60 = .ok (.aload_n 0, 1) := by decide +kernel
theorem dX7_back_61 : decode cX7_back 61 = .ok (.iconst 0, 1) := by decide +kernel
theorem dX7_back_62 : decode cX7_back 62 = .ok (.putfield 116, 3) := by decide +kernel
theorem dX7_back_65 : decode cX7_back 65 = .ok (.aload_n 0, 1) := by decide +kernel
theorem dX7_back_66 : decode cX7_back 66 = .ok (.getfield 46, 3) := by decide +kernel
theorem dX7_back_69 : decode cX7_back 69 = .ok (.iconst 0, 1) := by decide +kernel
theorem dX7_back_70 : decode cX7_back 70 = .ok (.iaload, 1) := by decide +kernel
theorem dX7_back_71 : decode cX7_back 71 = .ok (.ireturn, 1) := by decide +kernel
set_option maxRecDepth 20000 in
theorem ggX7_certain_X7_begin : GoodIn wsX7_certain wsX7_begin := goodIn_r _ [8, 9, 10, 3, 11, 12, 13, 14, 15, 16, 7, 17, 33, 34, 35, 36, 37, 38, 39, 40, 41, 42, 43, 44, 45, 46, 47, 48, 49, 50, 51, 52, 53, 54, 55] (by decide +kernel) (by decide +kernel)
set_option maxRecDepth 20000 in
theorem gX7_certain_X7_begin : GoodIn wsX7_certain (wsV RX7 154 RX7 yX7_begin wsX7_begin) := goodIn_app (goodIn_of _ (by decide +kernel)) ggX7_certain_X7_begin
set_option maxRecDepth 20000 in
theorem ggX7_certain_X7_goesOn : GoodIn wsX7_certain wsX7_goesOn := goodIn_r _ [21, 9, 10, 3, 22, 23, 24, 7, 25, 12, 11, 26, 27, 28, 29, 30, 31, 32, 13, 14, 33, 34, 35, 36, 37, 38, 39, 40, 41, 42, 43, 44, 45, 46, 47, 48, 49, 50, 51, 52, 53, 54, 55] (by decide +kernel) (by decide +kernel)
set_option maxRecDepth 20000 in
theorem gX7_certain_X7_goesOn : GoodIn wsX7_certain (wsV RX7 158 RX7 yX7_goesOn wsX7_goesOn) := goodIn_app (goodIn_of _ (by decide +kernel)) ggX7_certain_X7_goesOn
theorem dX7_certain_0 : decode cX7_certain 0 = .ok (.iconst 0, 1) := by decide +kernel
theorem dX7_certain_1 : decode cX7_certain 1 = .ok (.istore_n 1, 1) := by decide +kernel
theorem dX7_certain_2 : decode cX7_certain 2 = .ok (.iconst 0, 1) := by decide +kernel
theorem dX7_certain_3 : decode cX7_certain 3 = .ok (.istore_n 2, 1) := by decide +kernel
theorem dX7_certain_4 : decode cX7_certain 4 = .ok (.aload_n 0, 1) := by decide +kernel
theorem dX7_certain_5 : decode cX7_certain 5 = .ok (.aload_n 0, 1) := by decide +kernel
theorem dX7_certain_6 : decode cX7_certain 6 = .ok (.getfield 46, 3) := by decide +kernel
theorem dX7_certain_9 : decode cX7_certain 9 = .ok (.invokevirtual 154, 3) := by decide +kernel
theorem dX7_certain_12 : decode cX7_certain 12 = .ok (.aload_n 0, 1) := by decide +kernel
theorem dX7_certain_13 : decode cX7_certain 13 = .ok (.invokevirtual 158, 3) := by decide +kernel
theorem dX7_certain_16 : decode cX7_certain 16 = .ok (.ifCond .eq 76, 3) := by decide +kernel
theorem dX7_certain_19 : decode cX7_certain 19 = .ok (.iconst 0, 1) := by decide +kernel
theorem dX7_certain_20 : decode cX7_certain 20 = .ok (.istore_n 3, 1) := by decide +kernel
theorem dX7_certain_21 : decode cX7_certain 21 = .ok (.iload_n 3, 1) := by decide +kernel
theorem dX7_certain_22 : decode cX7_certain 22 = .ok (.aload_n 0, 1) := by decide +kernel
theorem dX7_certain_23 : decode cX7_certain 23 = .ok (.getfield 46, 3) := by decide +kernel
theorem dX7_certain_26 : decode cX7_certain 26 = .ok (.iconst 0, 1) := by decide +kernel
theorem dX7_certain_27 : decode cX7_certain 27 = .ok (.iaload, 1) := by decide +kernel
theorem dX7_certain_28 : decode cX7_certain 28 = .ok (.if_icmp .ge 58, 3) := by decide +kernel
theorem dX7_certain_31 : decode cX7_certain 31 = .ok (.iload_n 2, 1) := by decide +kernel
theorem dX7_certain_32 : decode cX7_certain 32 = .ok (.ifCond .ne 21, 3) := by decide +kernel
theorem dX7_certain_35 : decode cX7_certain 35 = .ok (.aload_n 0, 1) := by decide +kernel
theorem dX7_certain_36 : decode cX7_certain 36 = .ok (.getfield 83, 3) := by decide +kernel
theorem dX7_certain_39 : decode cX7_certain 39 = .ok (.iload_n 3, 1) := by decide +kernel
theorem dX7_certain_40 : decode cX7_certain 40 = .ok (.aload_n 0, 1) := by decide +kernel
theorem dX7_certain_41 : decode cX7_certain 41 = .ok (.getfield 65, 3) := by decide +kernel
theorem dX7_certain_44 : decode cX7_certain 44 = .ok (.iload_n 3, 1) := by decide +kernel
theorem dX7_certain_45 : decode cX7_certain 45 = .ok (.iaload, 1) := by decide +kernel
theorem dX7_certain_46 : decode cX7_certain 46 = .ok (.iastore, 1) := by decide +kernel
theorem dX7_certain_47 : decode cX7_certain 47 = .ok (.iload_n 1, 1) := by decide +kernel
theorem dX7_certain_48 : decode cX7_certain 48 = .ok (.iconst 1, 1) := by decide +kernel
theorem dX7_certain_49 : decode cX7_certain 49 = .ok (.iload_n 3, 1) := by decide +kernel
theorem dX7_certain_50 : decode cX7_certain 50 = .ok (.ishl, 1) := by decide +kernel
theorem dX7_certain_51 : decode cX7_certain 51 = .ok (.ior, 1) := by decide +kernel
theorem dX7_certain_52 : decode cX7_certain 52 = .ok (.istore_n 1, 1) := by decide +kernel
theorem dX7_certain_53 : decode cX7_certain 53 = .ok (.iload_n 1, 1) := by decide +kernel
theorem dX7_certain_54 : decode cX7_certain 54 = .ok (.aload_n 0, 1) := by decide +kernel
theorem dX7_certain_55 : decode cX7_certain 55 = .ok (.getfield 83, 3) := by decide +kernel
theorem dX7_certain_58 : decode cX7_certain 58 = .ok (.iload_n 3, 1) := by decide +kernel
theorem dX7_certain_59 : decode cX7_certain 59 = .ok (.iaload, 1) := by decide +kernel
theorem dX7_certain_60 : decode cX7_certain 60 = .ok (.aload_n 0, 1) := by decide +kernel
theorem dX7_certain_61 : decode cX7_certain 61 = .ok (.getfield 65, 3) := by decide +kernel
theorem dX7_certain_64 : decode cX7_certain 64 = .ok (.iload_n 3, 1) := by decide +kernel
theorem dX7_certain_65 : decode cX7_certain 65 = .ok (.iaload, 1) := by decide +kernel
theorem dX7_certain_66 : decode cX7_certain 66 = .ok (.if_icmp .ne 7, 3) := by decide +kernel
theorem dX7_certain_69 : decode cX7_certain 69 = .ok (.iload_n 1, 1) := by decide +kernel
theorem dX7_certain_70 : decode cX7_certain 70 = .ok (.goto 8, 3) := by decide +kernel
theorem dX7_certain_73 : decode cX7_certain 73 = .ok (.iconst 1, 1) := by decide +kernel
theorem dX7_certain_74 : decode cX7_certain 74 = .ok (.iload_n 3, 1) := by decide +kernel
theorem dX7_certain_75 : decode cX7_certain 75 = .ok (.ishl, 1) := by decide +kernel
theorem dX7_certain_76 : decode cX7_certain 76 = .ok (.iconst (-1), 1) := by decide +kernel
theorem dX7_certain_77 : decode cX7_certain 77 = .ok (.ixor, 1) := by decide +kernel
theorem dX7_certain_78 : decode cX7_certain 78 = .ok (.iand, 1) := by decide +kernel
theorem dX7_certain_79 : decode cX7_certain 79 = .ok (.istore_n 1, 1) := by decide +kernel
theorem dX7_certain_80 : decode cX7_certain 80 = .ok (.iinc 3 1, 3) := by decide +kernel
theorem dX7_certain_83 : decode cX7_certain 83 = .ok (.goto (-62), 3) := by decide +kernel
theorem dX7_certain_86 : decode cX7_certain 86 = .ok (.iinc 2 1, 3) := by decide +kernel
theorem dX7_certain_89 : decode cX7_certain 89 = .ok (.goto (-77), 3) := by decide +kernel
theorem dX7_certain_92 : decode cX7_certain 92 = .ok (.iload_n 1, 1) := by decide +kernel
theorem dX7_certain_93 : decode cX7_certain 93 = .ok (.ireturn, 1) := by decide +kernel
set_option maxRecDepth 20000 in
theorem ggX7_count_X7_standing : GoodIn wsX7_count wsX7_standing := goodIn_r _ [9, 10, 11, 12, 8, 13, 14, 15, 16, 17, 18, 19, 20, 21, 22, 23, 24, 25, 26, 27, 28, 29, 30, 31, 32, 33, 34, 35, 36, 37, 38, 44, 45, 46, 47, 48, 49, 50, 51, 52, 53, 54, 55, 56, 57, 58, 59, 60, 61, 62, 63, 64, 65, 66] (by decide +kernel) (by decide +kernel)
set_option maxRecDepth 20000 in
theorem gX7_count_X7_standing : GoodIn wsX7_count (wsV RX7 137 RX7 yX7_standing wsX7_standing) := goodIn_app (goodIn_of _ (by decide +kernel)) ggX7_count_X7_standing
set_option maxRecDepth 20000 in
theorem ggX7_count_X7_certain : GoodIn wsX7_count wsX7_certain := goodIn_r _ [42, 2, 43, 16, 10, 11, 12, 8, 13, 14, 15, 17, 18, 19, 20, 21, 22, 23, 24, 25, 26, 27, 28, 29, 30, 31, 32, 33, 34, 35, 36, 37, 38, 44, 45, 46, 47, 48, 49, 50, 51, 52, 53, 54, 55, 56, 57, 58, 59, 60, 61, 62, 63, 64, 65, 66] (by decide +kernel) (by decide +kernel)
set_option maxRecDepth 20000 in
theorem gX7_count_X7_certain : GoodIn wsX7_count (wsV RX7 203 RX7 yX7_certain wsX7_certain) := goodIn_app (goodIn_of _ (by decide +kernel)) ggX7_count_X7_certain
theorem dX7_count_0 : decode cX7_count 0 = .ok (.aload_n 0, 1) := by decide +kernel
theorem dX7_count_1 : decode cX7_count 1 = .ok (.iconst 0, 1) := by decide +kernel
theorem dX7_count_2 : decode cX7_count 2 = .ok (.putfield 1, 3) := by decide +kernel
theorem dX7_count_5 : decode cX7_count 5 = .ok (.iload_n 1, 1) := by decide +kernel
theorem dX7_count_6 : decode cX7_count 6 = .ok (.tableswitch 77 0 7 #[46, 46, 46, 46, 53, 62, 67, 72], 46) := by decide +kernel
theorem dX7_count_52 : decode cX7_count 52 = .ok (.aload_n 0, 1) := by decide +kernel
theorem dX7_count_53 : decode cX7_count 53 = .ok (.getfield 46, 3) := by decide +kernel
theorem dX7_count_56 : decode cX7_count 56 = .ok (.iload_n 1, 1) := by decide +kernel
theorem dX7_count_57 : decode cX7_count 57 = .ok (.iaload, 1) := by decide +kernel
theorem dX7_count_58 : decode cX7_count 58 = .ok (.ireturn, 1) := by decide +kernel
theorem dX7_count_59 : decode cX7_count 59 = .ok (.aload_n 0, 1) := by decide +kernel
theorem dX7_count_60 : decode cX7_count 60 = .ok (.aload_n 0, 1) := by decide +kernel
theorem dX7_count_61 : decode cX7_count 61 = .ok (.getfield 46, 3) := by decide +kernel
theorem dX7_count_64 : decode cX7_count 64 = .ok (.invokevirtual 137, 3) := by decide +kernel
theorem dX7_count_67 : decode cX7_count 67 = .ok (.ireturn, 1) := by decide +kernel
theorem dX7_count_68 : decode cX7_count 68 = .ok (.aload_n 0, 1) := by decide +kernel
theorem dX7_count_69 : decode cX7_count 69 = .ok (.invokevirtual 203, 3) := by decide +kernel
theorem dX7_count_72 : decode cX7_count 72 = .ok (.ireturn, 1) := by decide +kernel
theorem dX7_count_73 : decode cX7_count 73 = .ok (.aload_n 0, 1) := by decide +kernel
theorem dX7_count_74 : decode cX7_count 74 = .ok (.getfield 13, 3) := by decide +kernel
theorem dX7_count_77 : decode cX7_count 77 = .ok (.ireturn, 1) := by decide +kernel
theorem dX7_count_78 : decode cX7_count 78 = .ok (.aload_n 0, 1) := by decide +kernel
theorem dX7_count_79 : decode cX7_count 79 = .ok (.getfield 116, 3) := by decide +kernel
theorem dX7_count_82 : decode cX7_count 82 = .ok (.ireturn, 1) := by decide +kernel
theorem dX7_count_83 : decode cX7_count 83 = .ok (.iconst (-1), 1) := by decide +kernel
theorem dX7_count_84 : decode cX7_count 84 = .ok (.ireturn, 1) := by decide +kernel
theorem dJ6_bitCount_0f7a4_0 : decode cJ6_bitCount_0f7a4 0 = .ok (.iload_n 0, 1) := by decide +kernel
theorem dJ6_bitCount_0f7a4_1 : decode cJ6_bitCount_0f7a4 1 = .ok (.iload_n 0, 1) := by decide +kernel
theorem dJ6_bitCount_0f7a4_2 : decode cJ6_bitCount_0f7a4 2 = .ok (.iconst 1, 1) := by decide +kernel
theorem dJ6_bitCount_0f7a4_3 : decode cJ6_bitCount_0f7a4 3 = .ok (.iushr, 1) := by decide +kernel
theorem dJ6_bitCount_0f7a4_4 : decode cJ6_bitCount_0f7a4 4 = .ok (.ldc_w 265, 3) := by decide +kernel
theorem dJ6_bitCount_0f7a4_7 : decode cJ6_bitCount_0f7a4 7 = .ok (.iand, 1) := by decide +kernel
theorem dJ6_bitCount_0f7a4_8 : decode cJ6_bitCount_0f7a4 8 = .ok (.isub, 1) := by decide +kernel
theorem dJ6_bitCount_0f7a4_9 : decode cJ6_bitCount_0f7a4 9 = .ok (.istore_n 0, 1) := by decide +kernel
theorem dJ6_bitCount_0f7a4_10 : decode cJ6_bitCount_0f7a4 10 = .ok (.iload_n 0, 1) := by decide +kernel
theorem dJ6_bitCount_0f7a4_11 : decode cJ6_bitCount_0f7a4 11 = .ok (.ldc_w 266, 3) := by decide +kernel
theorem dJ6_bitCount_0f7a4_14 : decode cJ6_bitCount_0f7a4 14 = .ok (.iand, 1) := by decide +kernel
theorem dJ6_bitCount_0f7a4_15 : decode cJ6_bitCount_0f7a4 15 = .ok (.iload_n 0, 1) := by decide +kernel
theorem dJ6_bitCount_0f7a4_16 : decode cJ6_bitCount_0f7a4 16 = .ok (.iconst 2, 1) := by decide +kernel
theorem dJ6_bitCount_0f7a4_17 : decode cJ6_bitCount_0f7a4 17 = .ok (.iushr, 1) := by decide +kernel
theorem dJ6_bitCount_0f7a4_18 : decode cJ6_bitCount_0f7a4 18 = .ok (.ldc_w 266, 3) := by decide +kernel
theorem dJ6_bitCount_0f7a4_21 : decode cJ6_bitCount_0f7a4 21 = .ok (.iand, 1) := by decide +kernel
theorem dJ6_bitCount_0f7a4_22 : decode cJ6_bitCount_0f7a4 22 = .ok (.iadd, 1) := by decide +kernel
theorem dJ6_bitCount_0f7a4_23 : decode cJ6_bitCount_0f7a4 23 = .ok (.istore_n 0, 1) := by decide +kernel
theorem dJ6_bitCount_0f7a4_24 : decode cJ6_bitCount_0f7a4 24 = .ok (.iload_n 0, 1) := by decide +kernel
theorem dJ6_bitCount_0f7a4_25 : decode cJ6_bitCount_0f7a4 25 = .ok (.iload_n 0, 1) := by decide +kernel
theorem dJ6_bitCount_0f7a4_26 : decode cJ6_bitCount_0f7a4 26 = .ok (.iconst 4, 1) := by decide +kernel
theorem dJ6_bitCount_0f7a4_27 : decode cJ6_bitCount_0f7a4 27 = .ok (.iushr, 1) := by decide +kernel
theorem dJ6_bitCount_0f7a4_28 : decode cJ6_bitCount_0f7a4 28 = .ok (.iadd, 1) := by decide +kernel
theorem dJ6_bitCount_0f7a4_29 : decode cJ6_bitCount_0f7a4 29 = .ok (.ldc_w 267, 3) := by decide +kernel
theorem dJ6_bitCount_0f7a4_32 : decode cJ6_bitCount_0f7a4 32 = .ok (.iand, 1) := by decide +kernel
theorem dJ6_bitCount_0f7a4_33 : decode cJ6_bitCount_0f7a4 33 = .ok (.istore_n 0, 1) := by decide +kernel
theorem dJ6_bitCount_0f7a4_34 : decode cJ6_bitCount_0f7a4 34 = .ok (.iload_n 0, 1) := by decide +kernel
theorem dJ6_bitCount_0f7a4_35 : decode cJ6_bitCount_0f7a4 35 = .ok (.iload_n 0, 1) := by decide +kernel
theorem dJ6_bitCount_0f7a4_36 : decode cJ6_bitCount_0f7a4 36 = .ok (.bipush 8, 2) := by decide +kernel
theorem dJ6_bitCount_0f7a4_38 : decode cJ6_bitCount_0f7a4 38 = .ok (.iushr, 1) := by decide +kernel
theorem dJ6_bitCount_0f7a4_39 : decode cJ6_bitCount_0f7a4 39 = .ok (.iadd, 1) := by decide +kernel
theorem dJ6_bitCount_0f7a4_40 : decode cJ6_bitCount_0f7a4 40 = .ok (.istore_n 0, 1) := by decide +kernel
theorem dJ6_bitCount_0f7a4_41 : decode cJ6_bitCount_0f7a4 41 = .ok (.iload_n 0, 1) := by decide +kernel
theorem dJ6_bitCount_0f7a4_42 : decode cJ6_bitCount_0f7a4 42 = .ok (.iload_n 0, 1) := by decide +kernel
theorem dJ6_bitCount_0f7a4_43 : decode cJ6_bitCount_0f7a4 43 = .ok (.bipush 16, 2) := by decide +kernel
theorem dJ6_bitCount_0f7a4_45 : decode cJ6_bitCount_0f7a4 45 = .ok (.iushr, 1) := by decide +kernel
theorem dJ6_bitCount_0f7a4_46 : decode cJ6_bitCount_0f7a4 46 = .ok (.iadd, 1) := by decide +kernel
theorem dJ6_bitCount_0f7a4_47 : decode cJ6_bitCount_0f7a4 47 = .ok (.istore_n 0, 1) := by decide +kernel
theorem dJ6_bitCount_0f7a4_48 : decode cJ6_bitCount_0f7a4 48 = .ok (.iload_n 0, 1) := by decide +kernel
theorem dJ6_bitCount_0f7a4_49 : decode cJ6_bitCount_0f7a4 49 = .ok (.bipush 63, 2) := by decide +kernel
theorem dJ6_bitCount_0f7a4_51 : decode cJ6_bitCount_0f7a4 51 = .ok (.iand, 1) := by decide +kernel
theorem dJ6_bitCount_0f7a4_52 : decode cJ6_bitCount_0f7a4 52 = .ok (.ireturn, 1) := by decide +kernel
theorem dJ9_abs_0f7a4_0 : decode cJ9_abs_0f7a4 0 = .ok (.iload_n 0, 1) := by decide +kernel
theorem dJ9_abs_0f7a4_1 : decode cJ9_abs_0f7a4 1 = .ok (.ifCond .ge 8, 3) := by decide +kernel
theorem dJ9_abs_0f7a4_4 : decode cJ9_abs_0f7a4 4 = .ok (.iload_n 0, 1) := by decide +kernel
theorem dJ9_abs_0f7a4_5 : decode cJ9_abs_0f7a4 5 = .ok (.ineg, 1) := by decide +kernel
theorem dJ9_abs_0f7a4_6 : decode cJ9_abs_0f7a4 6 = .ok (.goto 4, 3) := by decide +kernel
theorem dJ9_abs_0f7a4_9 : decode cJ9_abs_0f7a4 9 = .ok (.iload_n 0, 1) := by decide +kernel
theorem dJ9_abs_0f7a4_10 : decode cJ9_abs_0f7a4 10 = .ok (.ireturn, 1) := by decide +kernel
theorem dJ9_max_7cf53_0 : decode cJ9_max_7cf53 0 = .ok (.iload_n 0, 1) := by decide +kernel
theorem dJ9_max_7cf53_1 : decode cJ9_max_7cf53 1 = .ok (.iload_n 1, 1) := by decide +kernel
theorem dJ9_max_7cf53_2 : decode cJ9_max_7cf53 2 = .ok (.if_icmp .lt 7, 3) := by decide +kernel
theorem dJ9_max_7cf53_5 : decode cJ9_max_7cf53 5 = .ok (.iload_n 0, 1) := by decide +kernel
theorem dJ9_max_7cf53_6 : decode cJ9_max_7cf53 6 = .ok (.goto 4, 3) := by decide +kernel
theorem dJ9_max_7cf53_9 : decode cJ9_max_7cf53 9 = .ok (.iload_n 1, 1) := by decide +kernel
theorem dJ9_max_7cf53_10 : decode cJ9_max_7cf53 10 = .ok (.ireturn, 1) := by decide +kernel
theorem dJ9_min_7cf53_0 : decode cJ9_min_7cf53 0 = .ok (.iload_n 0, 1) := by decide +kernel
theorem dJ9_min_7cf53_1 : decode cJ9_min_7cf53 1 = .ok (.iload_n 1, 1) := by decide +kernel
theorem dJ9_min_7cf53_2 : decode cJ9_min_7cf53 2 = .ok (.if_icmp .gt 7, 3) := by decide +kernel
theorem dJ9_min_7cf53_5 : decode cJ9_min_7cf53 5 = .ok (.iload_n 0, 1) := by decide +kernel
theorem dJ9_min_7cf53_6 : decode cJ9_min_7cf53 6 = .ok (.goto 4, 3) := by decide +kernel
theorem dJ9_min_7cf53_9 : decode cJ9_min_7cf53 9 = .ok (.iload_n 1, 1) := by decide +kernel
theorem dJ9_min_7cf53_10 : decode cJ9_min_7cf53 10 = .ok (.ireturn, 1) := by decide +kernel
abbrev vwCl : List vw_C := [(RX1, TX1, 5), (RX2, TX2, 8), (RX3, TX3, 3), (RX4, TX4, 4), (RX5, TX5, 5), (RX6, TX6, 10), (RX7, TX7, 23)]
