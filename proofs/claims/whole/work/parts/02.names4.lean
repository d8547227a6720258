theorem dX7_heard_134 : decode cX7_heard 134 = .ok (.aload_n 0, 1) := by decide +kernel
theorem dX7_heard_135 : decode cX7_heard 135 = .ok (.getfield 55, 3) := by decide +kernel
theorem dX7_heard_138 : decode cX7_heard 138 = .ok (.iconst 1, 1) := by decide +kernel
theorem dX7_heard_139 : decode cX7_heard 139 = .ok (.iconst 0, 1) := by decide +kernel
theorem dX7_heard_140 : decode cX7_heard 140 = .ok (.bastore, 1) := by decide +kernel
theorem dX7_heard_141 : decode cX7_heard 141 = .ok (.iload_n 1, 1) := by decide +kernel
theorem dX7_heard_142 : decode cX7_heard 142 = .ok (.ireturn, 1) := by decide +kernel
theorem dX7_copyAll_0 : decode cX7_copyAll 0 = .ok (.iconst 0, 1) := by decide +kernel
theorem dX7_copyAll_1 : decode cX7_copyAll 1 = .ok (.istore_n 2, 1) := by decide +kernel
theorem dX7_copyAll_2 : decode cX7_copyAll 2 = .ok (.iload_n 2, 1) := by decide +kernel
theorem dX7_copyAll_3 : decode cX7_copyAll 3 = .ok (.bipush 11, 2) := by decide +kernel
theorem dX7_copyAll_5 : decode cX7_copyAll 5 = .ok (.if_icmp .ge 15, 3) := by decide +kernel
theorem dX7_copyAll_8 : decode cX7_copyAll 8 = .ok (.aload_n 1, 1) := by decide +kernel
theorem dX7_copyAll_9 : decode cX7_copyAll 9 = .ok (.iload_n 2, 1) := by decide +kernel
theorem dX7_copyAll_10 : decode cX7_copyAll 10 = .ok (.aload_n 0, 1) := by decide +kernel
theorem dX7_copyAll_11 : decode cX7_copyAll 11 = .ok (.iload_n 2, 1) := by decide +kernel
theorem dX7_copyAll_12 : decode cX7_copyAll 12 = .ok (.iaload, 1) := by decide +kernel
theorem dX7_copyAll_13 : decode cX7_copyAll 13 = .ok (.iastore, 1) := by decide +kernel
theorem dX7_copyAll_14 : decode cX7_copyAll 14 = .ok (.iinc 2 1, 3) := by decide +kernel
theorem dX7_copyAll_17 : decode cX7_copyAll 17 = .ok (.goto (-15), 3) := by decide +kernel
theorem dX7_copyAll_20 : decode cX7_copyAll 20 = .ok (.return_, 1) := by decide +kernel
set_option maxRecDepth 20000 in
theorem ggX7_isArrival_X7_in : GoodIn wsX7_isArrival wsX7_in := goodIn_r _ [5] (by decide +kernel) (by decide +kernel)
set_option maxRecDepth 20000 in
theorem gX7_isArrival_X7_in : GoodIn wsX7_isArrival (va_wsS RX7 9 yX7_in wsX7_in) := goodIn_app (goodIn_of _ (by decide +kernel)) ggX7_isArrival_X7_in
theorem dX7_isArrival_0 : decode cX7_isArrival 0 = .ok (.iload_n 1, 1) := by decide +kernel
theorem dX7_isArrival_1 : decode cX7_isArrival 1 = .ok (.i2l, 1) := by decide +kernel
theorem dX7_isArrival_2 : decode cX7_isArrival 2 = .ok (.lconst 0, 1) := by decide +kernel
theorem dX7_isArrival_3 : decode cX7_isArrival 3 = .ok (.aload_n 0, 1) := by decide +kernel
theorem dX7_isArrival_4 : decode cX7_isArrival 4 = .ok (.getfield 46, 3) := by decide +kernel
theorem dX7_isArrival_7 : decode cX7_isArrival 7 = .ok (.iconst 0, 1) := by decide +kernel
theorem dX7_isArrival_8 : decode cX7_isArrival 8 = .ok (.iaload, 1) := by decide +kernel
theorem dX7_isArrival_9 : decode cX7_isArrival 9 = .ok (.iconst 1, 1) := by decide +kernel
theorem dX7_isArrival_10 : decode cX7_isArrival 10 = .ok (.isub, 1) := by decide +kernel
theorem dX7_isArrival_11 : decode cX7_isArrival 11 = .ok (.i2l, 1) := by decide +kernel
theorem dX7_isArrival_12 : decode cX7_isArrival 12 = .ok (.invokestatic 9, 3) := by decide +kernel
theorem dX7_isArrival_15 : decode cX7_isArrival 15 = .ok (.ireturn, 1) := by decide +kernel
set_option maxRecDepth 20000 in
theorem ggX7_time_X7_isArrival : GoodIn wsX7_time wsX7_isArrival := goodIn_r _ [7, 2, 8, 9, 6, 10, 11, 12, 13, 14, 15, 16, 17, 18, 19, 20, 21, 22, 23, 24, 25, 26, 27, 28, 29, 30, 31, 32, 33] (by decide +kernel) (by decide +kernel)
set_option maxRecDepth 20000 in
theorem gX7_time_X7_isArrival : GoodIn wsX7_time (wsV RX7 119 RX7 yX7_isArrival wsX7_isArrival) := goodIn_app (goodIn_of _ (by decide +kernel)) ggX7_time_X7_isArrival
theorem dX7_time_0 : decode cX7_time 0 = .ok (.aload_n 0, 1) := by decide +kernel
theorem dX7_time_1 : decode cX7_time 1 = .ok (.iconst 0, 1) := by decide +kernel
theorem dX7_time_2 : decode cX7_time 2 = .ok (.putfield 1, 3) := by decide +kernel
theorem dX7_time_5 : decode cX7_time 5 = .ok (.aload_n 0, 1) := by decide +kernel
theorem dX7_time_6 : decode cX7_time 6 = .ok (.iload_n 1, 1) := by decide +kernel
theorem dX7_time_7 : decode cX7_time 7 = .ok (.invokevirtual 119, 3) := by decide +kernel
theorem dX7_time_10 : decode cX7_time 10 = .ok (.ifCond .eq 14, 3) := by decide +kernel
theorem dX7_time_13 : decode cX7_time 13 = .ok (.aload_n 0, 1) := by decide +kernel
theorem dX7_time_14 : decode cX7_time 14 = .ok (.getfield 46, 3) := by decide +kernel
theorem dX7_time_17 : decode cX7_time 17 = .ok (.iconst 4, 1) := by decide +kernel
theorem dX7_time_18 : decode cX7_time 18 = .ok (.iload_n 1, 1) := by decide +kernel
theorem dX7_time_19 : decode cX7_time 19 = .ok (.iadd, 1) := by decide +kernel
theorem dX7_time_20 : decode cX7_time 20 = .ok (.iaload, 1) := by decide +kernel
theorem dX7_time_21 : decode cX7_time 21 = .ok (.goto 4, 3) := by decide +kernel
theorem dX7_time_24 : decode cX7_time 24 = .ok (.iconst (-1), 1) := by decide +kernel
theorem dX7_time_25 : decode cX7_time 25 = .ok (.ireturn, 1) := by decide +kernel
theorem dX7_keepAct_0 : decode cX7_keepAct 0 = .ok (.aload_n 0, 1) := by decide +kernel
theorem dX7_keepAct_1 : decode cX7_keepAct 1 = .ok (.getfield 116, 3) := by decide +kernel
theorem dX7_keepAct_4 : decode cX7_keepAct 4 = .ok (.bipush 10, 2) := by decide +kernel
theorem dX7_keepAct_6 : decode cX7_keepAct 6 = .ok (.if_icmp .ne 42, 3) := by decide +kernel
theorem dX7_keepAct_9 : decode cX7_keepAct 9 = .ok (.iconst 0, 1) := by decide +kernel
theorem dX7_keepAct_10 : decode cX7_keepAct 10 = .ok (.istore_n 1, 1) := by decide +kernel
theorem dX7_keepAct_11 : decode cX7_keepAct 11 = .ok (.iload_n 1, 1) := by decide +kernel
theorem dX7_keepAct_12 : decode cX7_keepAct 12 = .ok (.bipush 99, 2) := by decide +kernel
theorem dX7_keepAct_14 : decode cX7_keepAct 14 = .ok (.if_icmp .ge 24, 3) := by decide +kernel
theorem dX7_keepAct_17 : decode cX7_keepAct 17 = .ok (.aload_n 0, 1) := by decide +kernel
theorem dX7_keepAct_18 : decode cX7_keepAct 18 = .ok (.getfield 52, 3) := by decide +kernel
theorem dX7_keepAct_21 : decode cX7_keepAct 21 = .ok (.iload_n 1, 1) := by decide +kernel
theorem dX7_keepAct_22 : decode cX7_keepAct 22 = .ok (.aload_n 0, 1) := by decide +kernel
theorem dX7_keepAct_23 : decode cX7_keepAct 23 = .ok (.getfield 52, 3) := by decide +kernel
theorem dX7_keepAct_26 : decode cX7_keepAct 26 = .ok (.iload_n 1, 1) := by decide +kernel
theorem dX7_keepAct_27 : decode cX7_keepAct 27 = .ok (.bipush 11, 2) := by decide +kernel
theorem dX7_keepAct_29 : decode cX7_keepAct 29 = .ok (.iadd, 1) := by decide +kernel
theorem dX7_keepAct_30 : decode cX7_keepAct 30 = .ok (.iaload, 1) := by decide +kernel
theorem dX7_keepAct_31 : decode cX7_keepAct 31 = .ok (.iastore, 1) := by decide +kernel
theorem dX7_keepAct_32 : decode cX7_keepAct 32 = .ok (.iinc 1 1, 3) := by decide +kernel
theorem dX7_keepAct_35 : decode cX7_keepAct 35 = .ok (.goto (-24), 3) := by decide +kernel
theorem dX7_keepAct_38 : decode cX7_keepAct 38 = .ok (.aload_n 0, 1) := by decide +kernel
theorem dX7_keepAct_39 : decode cX7_keepAct 39 = .ok (.dup, 1) := by decide +kernel
theorem dX7_keepAct_40 : decode cX7_keepAct 40 = .ok (.getfield 116, 3) := by decide +kernel
theorem dX7_keepAct_43 : decode cX7_keepAct 43 = .ok (.iconst 1, 1) := by decide +kernel
theorem dX7_keepAct_44 : decode cX7_keepAct 44 = .ok (.isub, 1) := by decide +kernel
theorem dX7_keepAct_45 : decode cX7_keepAct 45 = .ok (.putfield 116, 3) := by decide +kernel
theorem dX7_keepAct_48 : decode cX7_keepAct 48 = .ok (.iconst 0, 1) := by decide +kernel
theorem dX7_keepAct_49 : decode cX7_keepAct 49 = .ok (.istore_n 1, 1) := by decide +kernel
theorem dX7_keepAct_50 : decode cX7_keepAct 50 = .ok (.iload_n 1, 1) := by decide +kernel
theorem dX7_keepAct_51 : decode cX7_keepAct 51 = .ok (.bipush 11, 2) := by decide +kernel
theorem dX7_keepAct_53 : decode cX7_keepAct 53 = .ok (.if_icmp .ge 29, 3) := by decide +kernel
theorem dX7_keepAct_56 : decode cX7_keepAct 56 = .ok (.aload_n 0, 1) := by decide +kernel
theorem dX7_keepAct_57 : decode cX7_keepAct 57 = .ok (.getfield 52, 3) := by decide +kernel
theorem dX7_keepAct_60 : decode cX7_keepAct 60 = .ok (.bipush 11, 2) := by decide +kernel
theorem dX7_keepAct_62 : decode cX7_keepAct 62 = .ok (.aload_n 0, 1) := by decide +kernel
theorem dX7_keepAct_63 : decode cX7_keepAct 63 = .ok (.getfield 116, 3) := by decide +kernel
theorem dX7_keepAct_66 : decode cX7_keepAct 66 = .ok (.imul, 1) := by decide +kernel
theorem dX7_keepAct_67 : decode cX7_keepAct 67 = .ok (.iload_n 1, 1) := by decide +kernel
theorem dX7_keepAct_68 : decode cX7_keepAct 68 = .ok (.iadd, 1) := by decide +kernel
theorem dX7_keepAct_69 : decode cX7_keepAct 69 = .ok (.aload_n 0, 1) := by decide +kernel
theorem dX7_keepAct_70 : decode cX7_keepAct 70 = .ok (.getfield 46, 3) := by decide +kernel
theorem dX7_keepAct_73 : decode cX7_keepAct 73 = .ok (.iload_n 1, 1) := by decide +kernel
theorem dX7_keepAct_74 : decode cX7_keepAct 74 = .ok (.iaload, 1) := by decide +kernel
theorem dX7_keepAct_75 : decode cX7_keepAct 75 = .ok (.iastore, 1) := by decide +kernel
theorem dX7_keepAct_76 : decode cX7_keepAct 76 = .ok (.iinc 1 1, 3) := by decide +kernel
theorem dX7_keepAct_79 : decode cX7_keepAct 79 = .ok (.goto (-29), 3) := by decide +kernel
theorem dX7_keepAct_82 : decode cX7_keepAct 82 = .ok (.aload_n 0, 1) := by decide +kernel
theorem dX7_keepAct_83 : decode cX7_keepAct 83 = .ok (.dup, 1) := by decide +kernel
theorem dX7_keepAct_84 : decode cX7_keepAct 84 = .ok (.getfield 116, 3) := by decide +kernel
theorem dX7_keepAct_87 : decode cX7_keepAct 87 = .ok (.iconst 1, 1) := by decide +kernel
theorem dX7_keepAct_88 : decode cX7_keepAct 88 = .ok (.iadd, 1) := by decide +kernel
theorem dX7_keepAct_89 : decode cX7_keepAct 89 = .ok (.putfield 116, 3) := by decide +kernel
theorem dX7_keepAct_92 : decode cX7_keepAct 92 = .ok (.return_, 1) := by decide +kernel
set_option maxRecDepth 20000 in
theorem ggX7_adds_X7_in : GoodIn wsX7_adds wsX7_in := goodIn_r _ [7] (by decide +kernel) (by decide +kernel)
set_option maxRecDepth 20000 in
theorem gX7_adds_X7_in : GoodIn wsX7_adds (va_wsS RX7 9 yX7_in wsX7_in) := goodIn_app (goodIn_of _ (by decide +kernel)) ggX7_adds_X7_in
set_option maxRecDepth 20000 in
theorem ggX7_adds_X7_placeOf : GoodIn wsX7_adds wsX7_placeOf := goodIn_r _ [10] (by decide +kernel) (by decide +kernel)
set_option maxRecDepth 20000 in
theorem gX7_adds_X7_placeOf : GoodIn wsX7_adds (va_wsS RX7 86 yX7_placeOf wsX7_placeOf) := goodIn_app (goodIn_of _ (by decide +kernel)) ggX7_adds_X7_placeOf
set_option maxRecDepth 20000 in
theorem ggX7_adds_X7_keepAct : GoodIn wsX7_adds wsX7_keepAct := goodIn_r _ [14, 15, 16, 3, 20, 21, 22, 23, 24, 25, 26, 27, 28, 29, 30, 31, 32, 33, 34, 35, 36, 37, 38, 39, 40, 41, 42] (by decide +kernel) (by decide +kernel)
set_option maxRecDepth 20000 in
theorem gX7_adds_X7_keepAct : GoodIn wsX7_adds (wsV RX7 125 RX7 yX7_keepAct wsX7_keepAct) := goodIn_app (goodIn_of _ (by decide +kernel)) ggX7_adds_X7_keepAct
set_option maxRecDepth 20000 in
theorem ggX7_adds_X7_put : GoodIn wsX7_adds wsX7_put := goodIn_r _ [19, 8, 9, 6, 10] (by decide +kernel) (by decide +kernel)
set_option maxRecDepth 20000 in
theorem gX7_adds_X7_put : GoodIn wsX7_adds (va_wsS RX7 97 yX7_put wsX7_put) := goodIn_app (goodIn_of _ (by decide +kernel)) ggX7_adds_X7_put
theorem dX7_adds_0 : decode cX7_adds 0 = .ok (.aload_n 0, 1) := by decide +kernel
theorem dX7_adds_1 : decode cX7_adds 1 = .ok (.iconst 0, 1) := by decide +kernel
theorem dX7_adds_2 : decode cX7_adds 2 = .ok (.putfield 1, 3) := by decide +kernel
theorem dX7_adds_5 : decode cX7_adds 5 = .ok (.iload_n 1, 1) := by decide +kernel
theorem dX7_adds_6 : decode cX7_adds 6 = .ok (.i2l, 1) := by decide +kernel
theorem dX7_adds_7 : decode cX7_adds 7 = .ok (.lconst 0, 1) := by decide +kernel
theorem dX7_adds_8 : decode cX7_adds 8 = .ok (.ldc2_w 123, 3) := by decide +kernel
theorem dX7_adds_11 : decode cX7_adds 11 = .ok (.invokestatic 9, 3) := by decide +kernel
theorem dX7_adds_14 : decode cX7_adds 14 = .ok (.ifCond .ne 5, 3) := by decide +kernel
theorem dX7_adds_17 : decode cX7_adds 17 = .ok (.iconst (-1), 1) := by decide +kernel
theorem dX7_adds_18 : decode cX7_adds 18 = .ok (.ireturn, 1) := by decide +kernel
theorem dX7_adds_19 : decode cX7_adds 19 = .ok (.aload_n 0, 1) := by decide +kernel
theorem dX7_adds_20 : decode cX7_adds 20 = .ok (.getfield 46, 3) := by decide +kernel
theorem dX7_adds_23 : decode cX7_adds 23 = .ok (.iload_n 1, 1) := by decide +kernel
theorem dX7_adds_24 : decode cX7_adds 24 = .ok (.invokestatic 86, 3) := by decide +kernel
theorem dX7_adds_27 : decode cX7_adds 27 = .ok (.ifCond .lt 6, 3) := by decide +kernel
theorem dX7_adds_30 : decode cX7_adds 30 = .ok (.bipush (-2), 2) := by decide +kernel
theorem dX7_adds_32 : decode cX7_adds 32 = .ok (.ireturn, 1) := by decide +kernel
theorem dX7_adds_33 : decode cX7_adds 33 = .ok (.aload_n 0, 1) := by decide +kernel
theorem dX7_adds_34 : decode cX7_adds 34 = .ok (.getfield 46, 3) := by decide +kernel
theorem dX7_adds_37 : decode cX7_adds 37 = .ok (.iconst 0, 1) := by decide +kernel
theorem dX7_adds_38 : decode cX7_adds 38 = .ok (.iaload, 1) := by decide +kernel
theorem dX7_adds_39 : decode cX7_adds 39 = .ok (.bipush 7, 2) := by decide +kernel
theorem dX7_adds_41 : decode cX7_adds 41 = .ok (.if_icmp .ne 6, 3) := by decide +kernel
theorem dX7_adds_44 : decode cX7_adds 44 = .ok (.bipush (-3), 2) := by decide +kernel
theorem dX7_adds_46 : decode cX7_adds 46 = .ok (.ireturn, 1) := by decide +kernel
theorem dX7_adds_47 : decode cX7_adds 47 = .ok (.aload_n 0, 1) := by decide +kernel
theorem dX7_adds_48 : decode cX7_adds 48 = .ok (.invokevirtual 125, 3) := by decide +kernel
theorem dX7_adds_51 : decode cX7_adds 51 = .ok (.aload_n 0, 1) := by decide +kernel
theorem dX7_adds_52 : decode cX7_adds 52 = .ok (.getfield 46, 3) := by decide +kernel
theorem dX7_adds_55 : decode cX7_adds 55 = .ok (.iload_n 1, 1) := by decide +kernel
theorem dX7_adds_56 : decode cX7_adds 56 = .ok (.invokestatic 97, 3) := by decide +kernel
theorem dX7_adds_59 : decode cX7_adds 59 = .ok (.aload_n 0, 1) := by decide +kernel
theorem dX7_adds_60 : decode cX7_adds 60 = .ok (.getfield 46, 3) := by decide +kernel
theorem dX7_adds_63 : decode cX7_adds 63 = .ok (.iload_n 1, 1) := by decide +kernel
theorem dX7_adds_64 : decode cX7_adds 64 = .ok (.invokestatic 86, 3) := by decide +kernel
theorem dX7_adds_67 : decode cX7_adds 67 = .ok (.ireturn, 1) := by decide +kernel
set_option maxRecDepth 20000 in
theorem ggX7_strikes_X7_isArrival : GoodIn wsX7_strikes wsX7_isArrival := goodIn_r _ [7, 2, 8, 9, 6, 10, 20, 21, 22, 23, 24, 25, 26, 27, 28, 29, 30, 31, 32, 33, 34, 35, 36, 37, 38, 39, 40, 41, 42] (by decide +kernel) (by decide +kernel)
set_option maxRecDepth 20000 in
theorem gX7_strikes_X7_isArrival : GoodIn wsX7_strikes (wsV RX7 119 RX7 yX7_isArrival wsX7_isArrival) := goodIn_app (goodIn_of _ (by decide +kernel)) ggX7_strikes_X7_isArrival
set_option maxRecDepth 20000 in
theorem ggX7_strikes_X7_keepAct : GoodIn wsX7_strikes wsX7_keepAct := goodIn_r _ [14, 15, 16, 2, 20, 21, 22, 23, 24, 25, 26, 27, 28, 29, 30, 31, 32, 33, 34, 35, 36, 37, 38, 39, 40, 41, 42] (by decide +kernel) (by decide +kernel)
set_option maxRecDepth 20000 in
theorem gX7_strikes_X7_keepAct : GoodIn wsX7_strikes (wsV RX7 125 RX7 yX7_keepAct wsX7_keepAct) := goodIn_app (goodIn_of _ (by decide +kernel)) ggX7_strikes_X7_keepAct
set_option maxRecDepth 20000 in
theorem ggX7_strikes_X7_drop : GoodIn wsX7_strikes wsX7_drop := goodIn_r _ [19] (by decide +kernel) (by decide +kernel)
set_option maxRecDepth 20000 in
theorem gX7_strikes_X7_drop : GoodIn wsX7_strikes (va_wsS RX7 128 yX7_drop wsX7_drop) := goodIn_app (goodIn_of _ (by decide +kernel)) ggX7_strikes_X7_drop
theorem dX7_strikes_0 : decode cX7_strikes 0 = .ok (.aload_n 0, 1) := by decide +kernel
theorem dX7_strikes_1 : decode cX7_strikes 1 = .ok (.iconst 0, 1) := by decide +kernel
theorem dX7_strikes_2 : decode cX7_strikes 2 = .ok (.putfield 1, 3) := by decide +kernel
theorem dX7_strikes_5 : decode cX7_strikes 5 = .ok (.aload_n 0, 1) := by decide +kernel
theorem dX7_strikes_6 : decode cX7_strikes 6 = .ok (.iload_n 1, 1) := by decide +kernel
theorem dX7_strikes_7 : decode cX7_strikes 7 = .ok (.invokevirtual 119, 3) := by decide +kernel
theorem dX7_strikes_10 : decode cX7_strikes 10 = .ok (.ifCond .ne 5, 3) := by decide +kernel
theorem dX7_strikes_13 : decode cX7_strikes 13 = .ok (.iconst (-1), 1) := by decide +kernel
theorem dX7_strikes_14 : decode cX7_strikes 14 = .ok (.ireturn, 1) := by decide +kernel
theorem dX7_strikes_15 : decode cX7_strikes 15 = .ok (.aload_n 0, 1) := by decide +kernel
theorem dX7_strikes_16 : decode cX7_strikes 16 = .ok (.invokevirtual 125, 3) := by decide +kernel
theorem dX7_strikes_19 : decode cX7_strikes 19 = .ok (.aload_n 0, 1) := by decide +kernel
theorem dX7_strikes_20 : decode cX7_strikes 20 = .ok (.getfield 46, 3) := by decide +kernel
theorem dX7_strikes_23 : decode cX7_strikes 23 = .ok (.iconst 4, 1) := by decide +kernel
theorem dX7_strikes_24 : decode cX7_strikes 24 = .ok (.iload_n 1, 1) := by decide +kernel
theorem dX7_strikes_25 : decode cX7_strikes 25 = .ok (.iadd, 1) := by decide +kernel
theorem dX7_strikes_26 : decode cX7_strikes 26 = .ok (.iaload, 1) := by decide +kernel
theorem dX7_strikes_27 : decode cX7_strikes 27 = .ok (.istore_n 2, 1) := by decide +kernel
theorem dX7_strikes_28 : decode cX7_strikes 28 = .ok (.aload_n 0, 1) := by decide +kernel
theorem dX7_strikes_29 : decode cX7_strikes 29 = .ok (.getfield 46, 3) := by decide +kernel
theorem dX7_strikes_32 : decode cX7_strikes 32 = .ok (.iload_n 1, 1) := by decide +kernel
theorem dX7_strikes_33 : decode cX7_strikes 33 = .ok (.invokestatic 128, 3) := by decide +kernel
theorem dX7_strikes_36 : decode cX7_strikes 36 = .ok (.iload_n 2, 1) := by decide +kernel
theorem dX7_strikes_37 : decode cX7_strikes 37 = .ok (.ireturn, 1) := by decide +kernel
set_option maxRecDepth 20000 in
theorem ggX7_boxes_X7_in : GoodIn wsX7_boxes wsX7_in := goodIn_r _ [9] (by decide +kernel) (by decide +kernel)
set_option maxRecDepth 20000 in
theorem gX7_boxes_X7_in : GoodIn wsX7_boxes (va_wsS RX7 9 yX7_in wsX7_in) := goodIn_app (goodIn_of _ (by decide +kernel)) ggX7_boxes_X7_in
set_option maxRecDepth 20000 in
theorem ggX7_boxes_X7_keepAct : GoodIn wsX7_boxes wsX7_keepAct := goodIn_r _ [13, 14, 15, 5, 49, 50, 51, 52, 53, 54, 55, 56, 57, 58, 59, 60, 61, 62, 63, 64, 65, 66, 67, 68, 69, 70, 71] (by decide +kernel) (by decide +kernel)
set_option maxRecDepth 20000 in
theorem gX7_boxes_X7_keepAct : GoodIn wsX7_boxes (wsV RX7 125 RX7 yX7_keepAct wsX7_keepAct) := goodIn_app (goodIn_of _ (by decide +kernel)) ggX7_boxes_X7_keepAct
set_option maxRecDepth 20000 in
theorem ggX7_boxes_X7_standing : GoodIn wsX7_boxes wsX7_standing := goodIn_r _ [19, 20, 21, 22, 8, 23, 24, 25, 26, 27, 28, 29, 30, 31, 32, 33, 34, 35, 36, 37, 38, 39, 40, 41, 42, 43, 44, 45, 46, 47, 48, 49, 50, 51, 52, 53, 54, 55, 56, 57, 58, 59, 60, 61, 62, 63, 64, 65, 66, 67, 68, 69, 70, 71] (by decide +kernel) (by decide +kernel)
set_option maxRecDepth 20000 in
theorem gX7_boxes_X7_standing : GoodIn wsX7_boxes (wsV RX7 137 RX7 yX7_standing wsX7_standing) := goodIn_app (goodIn_of _ (by decide +kernel)) ggX7_boxes_X7_standing
theorem dX7_boxes_0 : decode cX7_boxes 0 = .ok (.aload_n 0, 1) := by decide +kernel
theorem dX7_boxes_1 : decode cX7_boxes 1 = .ok (.iconst 0, 1) := by decide +kernel
theorem dX7_boxes_2 : decode cX7_boxes 2 = .ok (.putfield 1, 3) := by decide +kernel
theorem dX7_boxes_5 : decode cX7_boxes 5 = .ok (.iload_n 1, 1) := by decide +kernel
theorem dX7_boxes_6 : decode cX7_boxes 6 = .ok (.i2l, 1) := by decide +kernel
theorem dX7_boxes_7 : decode cX7_boxes 7 = .ok (.ldc2_w 131, 3) := by decide +kernel
theorem dX7_boxes_10 : decode cX7_boxes 10 = .ok (.ldc2_w 133, 3) := by decide +kernel
theorem dX7_boxes_13 : decode cX7_boxes 13 = .ok (.invokestatic 9, 3) := by decide +kernel
theorem dX7_boxes_16 : decode cX7_boxes 16 = .ok (.ifCond .eq 35, 3) := by decide +kernel
theorem dX7_boxes_19 : decode cX7_boxes 19 = .ok (.iload_n 2, 1) := by decide +kernel
theorem dX7_boxes_20 : decode cX7_boxes 20 = .ok (.i2l, 1) := by decide +kernel
theorem dX7_boxes_21 : decode cX7_boxes 21 = .ok (.iload_n 1, 1) := by decide +kernel
theorem dX7_boxes_22 : decode cX7_boxes 22 = .ok (.i2l, 1) := by decide +kernel
theorem dX7_boxes_23 : decode cX7_boxes 23 = .ok (.ldc2_w 133, 3) := by decide +kernel
theorem dX7_boxes_26 : decode cX7_boxes 26 = .ok (.invokestatic 9, 3) := by decide +kernel
theorem dX7_boxes_29 : decode cX7_boxes 29 = .ok (.ifCond .eq 22, 3) := by decide +kernel
theorem dX7_boxes_32 : decode cX7_boxes 32 = .ok (.iload_n 3, 1) := by decide +kernel
theorem dX7_boxes_33 : decode cX7_boxes 33 = .ok (.i2l, 1) := by decide +kernel
theorem dX7_boxes_34 : decode cX7_boxes 34 = .ok (.lconst 0, 1) := by decide +kernel
theorem dX7_boxes_35 : decode cX7_boxes 35 = .ok (.ldc2_w 135, 3) := by decide +kernel
theorem dX7_boxes_38 : decode cX7_boxes 38 = .ok (.invokestatic 9, 3) := by decide +kernel
theorem dX7_boxes_41 : decode cX7_boxes 41 = .ok (.ifCond .eq 10, 3) := by decide +kernel
theorem dX7_boxes_44 : decode cX7_boxes 44 = .ok (.iconst 4, 1) := by decide +kernel
theorem dX7_boxes_45 : decode cX7_boxes 45 = .ok (.iload_n 3, 1) := by decide +kernel
theorem dX7_boxes_46 : decode cX7_boxes 46 = .ok (.imul, 1) := by decide +kernel
theorem dX7_boxes_47 : decode cX7_boxes 47 = .ok (.iload_n 1, 1) := by decide +kernel
theorem dX7_boxes_48 : decode cX7_boxes 48 = .ok (.if_icmp .lt 5, 3) := by decide +kernel
theorem dX7_boxes_51 : decode cX7_boxes 51 = .ok (.iconst (-1), 1) := by decide +kernel
theorem dX7_boxes_52 : decode cX7_boxes 52 = .ok (.ireturn, 1) := by decide +kernel
theorem dX7_boxes_53 : decode cX7_boxes 53 = .ok (.aload_n 0, 1) := by decide +kernel
theorem dX7_boxes_54 : decode cX7_boxes 54 = .ok (.invokevirtual 125, 3) := by decide +kernel
theorem dX7_boxes_57 : decode cX7_boxes 57 = .ok (.aload_n 0, 1) := by decide +kernel
theorem dX7_boxes_58 : decode cX7_boxes 58 = .ok (.getfield 46, 3) := by decide +kernel
theorem dX7_boxes_61 : decode cX7_boxes 61 = .ok (.iconst 1, 1) := by decide +kernel
theorem dX7_boxes_62 : decode cX7_boxes 62 = .ok (.iload_n 1, 1) := by decide +kernel
theorem dX7_boxes_63 : decode cX7_boxes 63 = .ok (.iastore, 1) := by decide +kernel
theorem dX7_boxes_64 : decode cX7_boxes 64 = .ok (.aload_n 0, 1) := by decide +kernel
theorem dX7_boxes_65 : decode cX7_boxes 65 = .ok (.getfield 46, 3) := by decide +kernel
theorem dX7_boxes_68 : decode cX7_boxes 68 = .ok (.iconst 2, 1) := by decide +kernel
theorem dX7_boxes_69 : decode cX7_boxes 69 = .ok (.iload_n 2, 1) := by decide +kernel
theorem dX7_boxes_70 : decode cX7_boxes 70 = .ok (.iastore, 1) := by decide +kernel
theorem dX7_boxes_71 : decode cX7_boxes 71 = .ok (.aload_n 0, 1) := by decide +kernel
theorem dX7_boxes_72 : decode cX7_boxes 72 = .ok (.getfield 46, 3) := by decide +kernel
theorem dX7_boxes_75 : decode cX7_boxes 75 = .ok (.iconst 3, 1) := by decide +kernel
theorem dX7_boxes_76 : decode cX7_boxes 76 = .ok (.iload_n 3, 1) := by decide +kernel
theorem dX7_boxes_77 : decode cX7_boxes 77 = .ok (.iastore, 1) := by decide +kernel
theorem dX7_boxes_78 : decode cX7_boxes 78 = .ok (.aload_n 0, 1) := by decide +kernel
theorem dX7_boxes_79 : decode cX7_boxes 79 = .ok (.aload_n 0, 1) := by decide +kernel
theorem dX7_boxes_80 : decode cX7_boxes 80 = .ok (.getfield 46, 3) := by decide +kernel
theorem dX7_boxes_83 : decode cX7_boxes 83 = .ok (.invokevirtual 137, 3) := by decide +kernel
theorem dX7_boxes_86 : decode cX7_boxes 86 = .ok (.ireturn, 1) := by decide +kernel
theorem dX7_undo_0 : decode cX7_undo 0 = .ok (.aload_n 0, 1) := by decide +kernel
theorem dX7_undo_1 : decode cX7_undo 1 = .ok (.iconst 0, 1) := by decide +kernel
theorem dX7_undo_2 : decode cX7_undo 2 = .ok (.putfield 1, 3) := by decide +kernel
theorem dX7_undo_5 : decode cX7_undo 5 = .ok (.aload_n 0, 1) := by decide +kernel
theorem dX7_undo_6 : decode cX7_undo 6 = .ok (.getfield 116, 3) := by decide +kernel
theorem dX7_undo_9 : decode cX7_undo 9 = .ok (.ifCond .ne 6, 3) := by decide +kernel
theorem dX7_undo_12 : decode cX7_undo 12 = .ok (.bipush (-2), 2) := by decide +kernel
theorem dX7_undo_14 : decode cX7_undo 14 = .ok (.ireturn, 1) := by decide +kernel
theorem dX7_undo_15 : decode cX7_undo 15 = .ok (.aload_n 0, 1) := by decide +kernel
theorem dX7_undo_16 : decode cX7_undo 16 = .ok (.dup, 1) := by decide +kernel
theorem dX7_undo_17 : decode cX7_undo 17 = .ok (.getfield 116, 3) := by decide +kernel
theorem dX7_undo_20 : decode cX7_undo 20 = .ok (.iconst 1, 1) := by decide +kernel
theorem dX7_undo_21 : decode cX7_undo 21 = .ok (.isub, 1) := by decide +kernel
theorem dX7_undo_22 : decode cX7_undo 22 = .ok (.putfield 116, 3) := by decide +kernel
theorem dX7_undo_25 : decode cX7_undo 25 = .ok (.iconst 0, 1) := by decide +kernel
theorem dX7_undo_26 : decode cX7_undo 26 = .ok (.istore_n 1, 1) := by decide +kernel
theorem dX7_undo_27 : decode cX7_undo 27 = .ok (.iload_n 1, 1) := by decide +kernel
theorem dX7_undo_28 : decode cX7_undo 28 = .ok (.bipush 11, 2) := by decide +kernel
theorem dX7_undo_30 : decode cX7_undo 30 = .ok (.if_icmp .ge 29, 3) := by decide +kernel
theorem dX7_undo_33 : decode cX7_undo 33 = .ok (.aload_n 0, 1) := by decide +kernel
theorem dX7_undo_34 : decode cX7_undo 34 = .ok (.getfield 46, 3) := by decide +kernel
theorem dX7_undo_37 : decode cX7_undo 37 = .ok (.iload_n 1, 1) := by decide +kernel
theorem dX7_undo_38 : decode cX7_undo 38 = .ok (.aload_n 0, 1) := by decide +kernel
theorem dX7_undo_39 : decode cX7_undo 39 = .ok (.getfield 52, 3) := by decide +kernel
theorem dX7_undo_42 : decode cX7_undo 42 = .ok (.bipush 11, 2) := by decide +kernel
theorem dX7_undo_44 : decode cX7_undo 44 = .ok (.aload_n 0, 1) := by decide +kernel
theorem dX7_undo_45 : decode cX7_undo 45 = .ok (.getfield 116, 3) := by decide +kernel
theorem dX7_undo_48 : decode cX7_undo 48 = .ok (.imul, 1) := by decide +kernel
theorem dX7_undo_49 : decode cX7_undo 49 = .ok (.iload_n 1, 1) := by decide +kernel
theorem dX7_undo_50 : decode cX7_undo 50 = .ok (.iadd, 1) := by decide +kernel
theorem dX7_undo_51 : decode cX7_undo 51 = .ok (.iaload, 1) := by decide +kernel
theorem dX7_undo_52 : decode cX7_undo 52 = .ok (.iastore, 1) := by decide +kernel
theorem dX7_undo_53 : decode cX7_undo 53 = .ok (.iinc 1 1, 3) := by decide +kernel
theorem dX7_undo_56 : decode cX7_undo 56 = .ok (.goto (-29), 3) := by decide +kernel
theorem dX7_undo_59 : decode cX7_undo 59 = .ok (.aload_n 0, 1) := by decide +kernel
theorem dX7_undo_60 : decode cX7_undo 60 = .ok (.getfield 116, 3) := by decide +kernel
theorem dX7_undo_63 : decode cX7_undo 63 = .ok (.ireturn, 1) := by decide +kernel
theorem dX7_apart_0 : decode cX7_apart 0 = .ok (.aload_n 0, 1) := by decide +kernel
theorem dX7_apart_1 : decode cX7_apart 1 = .ok (.iconst 4, 1) := by decide +kernel
theorem dX7_apart_2 : decode cX7_apart 2 = .ok (.iload_n 2, 1) := by decide +kernel
theorem dX7_apart_3 : decode cX7_apart 3 = .ok (.iadd, 1) := by decide +kernel
theorem dX7_apart_4 : decode cX7_apart 4 = .ok (.iaload, 1) := by decide +kernel
theorem dX7_apart_5 : decode cX7_apart 5 = .ok (.aload_n 0, 1) := by decide +kernel
theorem dX7_apart_6 : decode cX7_apart 6 = .ok (.iconst 4, 1) := by decide +kernel
theorem dX7_apart_7 : decode cX7_apart 7 = .ok (.iload_n 1, 1) := by decide +kernel
theorem dX7_apart_8 : decode cX7_apart 8 = .ok (.iadd, 1) := by decide +kernel
theorem dX7_apart_9 : decode cX7_apart 9 = .ok (.iaload, 1) := by decide +kernel
theorem dX7_apart_10 : decode cX7_apart 10 = .ok (.isub, 1) := by decide +kernel
theorem dX7_apart_11 : decode cX7_apart 11 = .ok (.ireturn, 1) := by decide +kernel
set_option maxRecDepth 20000 in
theorem ggX7_begin_X7_copyAll : GoodIn wsX7_begin wsX7_copyAll := goodIn_r _ [11] (by decide +kernel) (by decide +kernel)
set_option maxRecDepth 20000 in
theorem gX7_begin_X7_copyAll : GoodIn wsX7_begin (va_wsS RX7 112 yX7_copyAll wsX7_copyAll) := goodIn_app (goodIn_of _ (by decide +kernel)) ggX7_begin_X7_copyAll
theorem dX7_begin_0 : decode cX7_begin 0 = .ok (.aload_n 1, 1) := by decide +kernel
theorem dX7_begin_1 : decode cX7_begin 1 = .ok (.aload_n 0, 1) := by decide +kernel
theorem dX7_begin_2 : decode cX7_begin 2 = .ok (.getfield 62, 3) := by decide +kernel
theorem dX7_begin_5 : decode cX7_begin 5 = .ok (.invokestatic 112, 3) := by decide +kernel
theorem dX7_begin_8 : decode cX7_begin 8 = .ok (.aload_n 0, 1) := by decide +kernel
theorem dX7_begin_9 : decode cX7_begin 9 = .ok (.iconst 0, 1) := by decide +kernel
theorem dX7_begin_10 : decode cX7_begin 10 = .ok (.putfield 141, 3) := by decide +kernel
theorem dX7_begin_13 : decode cX7_begin 13 = .ok (.aload_n 0, 1) := by decide +kernel
theorem dX7_begin_14 : decode cX7_begin 14 = .ok (.getfield 65, 3) := by decide +kernel
theorem dX7_begin_17 : decode cX7_begin 17 = .ok (.iconst 0, 1) := by decide +kernel
theorem dX7_begin_18 : decode cX7_begin 18 = .ok (.iconst 0, 1) := by decide +kernel
theorem dX7_begin_19 : decode cX7_begin 19 = .ok (.iastore, 1) := by decide +kernel
theorem dX7_begin_20 : decode cX7_begin 20 = .ok (.aload_n 0, 1) := by decide +kernel
theorem dX7_begin_21 : decode cX7_begin 21 = .ok (.getfield 68, 3) := by decide +kernel
theorem dX7_begin_24 : decode cX7_begin 24 = .ok (.iconst 0, 1) := by decide +kernel
theorem dX7_begin_25 : decode cX7_begin 25 = .ok (.aload_n 0, 1) := by decide +kernel
theorem dX7_begin_26 : decode cX7_begin 26 = .ok (.getfield 62, 3) := by decide +kernel
theorem dX7_begin_29 : decode cX7_begin 29 = .ok (.iconst 1, 1) := by decide +kernel
theorem dX7_begin_30 : decode cX7_begin 30 = .ok (.iaload, 1) := by decide +kernel
theorem dX7_begin_31 : decode cX7_begin 31 = .ok (.iastore, 1) := by decide +kernel
theorem dX7_begin_32 : decode cX7_begin 32 = .ok (.aload_n 0, 1) := by decide +kernel
theorem dX7_begin_33 : decode cX7_begin 33 = .ok (.getfield 71, 3) := by decide +kernel
theorem dX7_begin_36 : decode cX7_begin 36 = .ok (.iconst 0, 1) := by decide +kernel
theorem dX7_begin_37 : decode cX7_begin 37 = .ok (.iconst 1, 1) := by decide +kernel
theorem dX7_begin_38 : decode cX7_begin 38 = .ok (.iastore, 1) := by decide +kernel
theorem dX7_begin_39 : decode cX7_begin 39 = .ok (.aload_n 0, 1) := by decide +kernel
theorem dX7_begin_40 : decode cX7_begin 40 = .ok (.getfield 74, 3) := by decide +kernel
theorem dX7_begin_43 : decode cX7_begin 43 = .ok (.iconst 0, 1) := by decide +kernel
theorem dX7_begin_44 : decode cX7_begin 44 = .ok (.aload_n 0, 1) := by decide +kernel
theorem dX7_begin_45 : decode cX7_begin 45 = .ok (.getfield 62, 3) := by decide +kernel
theorem dX7_begin_48 : decode cX7_begin 48 = .ok (.iconst 2, 1) := by decide +kernel
theorem dX7_begin_49 : decode cX7_begin 49 = .ok (.iaload, 1) := by decide +kernel
theorem dX7_begin_50 : decode cX7_begin 50 = .ok (.iastore, 1) := by decide +kernel
theorem dX7_begin_51 : decode cX7_begin 51 = .ok (.aload_n 0, 1) := by decide +kernel
theorem dX7_begin_52 : decode cX7_begin 52 = .ok (.getfield 77, 3) := by decide +kernel
theorem dX7_begin_55 : decode cX7_begin 55 = .ok (.iconst 0, 1) := by decide +kernel
theorem dX7_begin_56 : decode cX7_begin 56 = .ok (.iconst 1, 1) := by decide +kernel
theorem dX7_begin_57 : decode cX7_begin 57 = .ok (.iastore, 1) := by decide +kernel
theorem dX7_begin_58 : decode cX7_begin 58 = .ok (.return_, 1) := by decide +kernel
set_option maxRecDepth 20000 in
theorem ggX7_doesCut_X7_apart : GoodIn wsX7_doesCut wsX7_apart := goodIn_r _ [10] (by decide +kernel) (by decide +kernel)
set_option maxRecDepth 20000 in
theorem gX7_doesCut_X7_apart : GoodIn wsX7_doesCut (va_wsS RX7 144 yX7_apart wsX7_apart) := goodIn_app (goodIn_of _ (by decide +kernel)) ggX7_doesCut_X7_apart
theorem dX7_doesCut_0 : decode cX7_doesCut 0 = .ok (.aload_n 0, 1) := by decide +kernel
theorem dX7_doesCut_1 : decode cX7_doesCut 1 = .ok (.getfield 68, 3) := by decide +kernel
theorem dX7_doesCut_4 : decode cX7_doesCut 4 = .ok (.iload_n 1, 1) := by decide +kernel
theorem dX7_doesCut_5 : decode cX7_doesCut 5 = .ok (.aload_n 0, 1) := by decide +kernel
theorem dX7_doesCut_6 : decode cX7_doesCut 6 = .ok (.getfield 68, 3) := by decide +kernel
theorem dX7_doesCut_9 : decode cX7_doesCut 9 = .ok (.iload_n 1, 1) := by decide +kernel
theorem dX7_doesCut_10 : decode cX7_doesCut 10 = .ok (.iconst 1, 1) := by decide +kernel
theorem dX7_doesCut_11 : decode cX7_doesCut 11 = .ok (.isub, 1) := by decide +kernel
theorem dX7_doesCut_12 : decode cX7_doesCut 12 = .ok (.iaload, 1) := by decide +kernel
theorem dX7_doesCut_13 : decode cX7_doesCut 13 = .ok (.iastore, 1) := by decide +kernel
theorem dX7_doesCut_14 : decode cX7_doesCut 14 = .ok (.aload_n 0, 1) := by decide +kernel
theorem dX7_doesCut_15 : decode cX7_doesCut 15 = .ok (.getfield 71, 3) := by decide +kernel
theorem dX7_doesCut_18 : decode cX7_doesCut 18 = .ok (.iload_n 1, 1) := by decide +kernel
theorem dX7_doesCut_19 : decode cX7_doesCut 19 = .ok (.aload_n 0, 1) := by decide +kernel
theorem dX7_doesCut_20 : decode cX7_doesCut 20 = .ok (.getfield 71, 3) := by decide +kernel
theorem dX7_doesCut_23 : decode cX7_doesCut 23 = .ok (.iload_n 1, 1) := by decide +kernel
theorem dX7_doesCut_24 : decode cX7_doesCut 24 = .ok (.iconst 1, 1) := by decide +kernel
theorem dX7_doesCut_25 : decode cX7_doesCut 25 = .ok (.isub, 1) := by decide +kernel
theorem dX7_doesCut_26 : decode cX7_doesCut 26 = .ok (.iaload, 1) := by decide +kernel
theorem dX7_doesCut_27 : decode cX7_doesCut 27 = .ok (.iastore, 1) := by decide +kernel
theorem dX7_doesCut_28 : decode cX7_doesCut 28 = .ok (.aload_n 0, 1) := by decide +kernel
theorem dX7_doesCut_29 : decode cX7_doesCut 29 = .ok (.getfield 74, 3) := by decide +kernel
theorem dX7_doesCut_32 : decode cX7_doesCut 32 = .ok (.iload_n 1, 1) := by decide +kernel
theorem dX7_doesCut_33 : decode cX7_doesCut 33 = .ok (.aload_n 0, 1) := by decide +kernel
theorem dX7_doesCut_34 : decode cX7_doesCut 34 = .ok (.getfield 74, 3) := by decide +kernel
theorem dX7_doesCut_37 : decode cX7_doesCut 37 = .ok (.iload_n 1, 1) := by decide +kernel
theorem dX7_doesCut_38 : decode cX7_doesCut 38 = .ok (.iconst 1, 1) := by decide +kernel
theorem dX7_doesCut_39 : decode cX7_doesCut 39 = .ok (.isub, 1) := by decide +kernel
theorem dX7_doesCut_40 : decode cX7_doesCut 40 = .ok (.iaload, 1) := by decide +kernel
theorem dX7_doesCut_41 : decode cX7_doesCut 41 = .ok (.iastore, 1) := by decide +kernel
theorem dX7_doesCut_42 : decode cX7_doesCut 42 = .ok (.aload_n 0, 1) := by decide +kernel
theorem dX7_doesCut_43 : decode cX7_doesCut 43 = .ok (.getfield 77, 3) := by decide +kernel
theorem dX7_doesCut_46 : decode cX7_doesCut 46 = .ok (.iload_n 1, 1) := by decide +kernel
theorem dX7_doesCut_47 : decode cX7_doesCut 47 = .ok (.aload_n 0, 1) := by decide +kernel
theorem dX7_doesCut_48 : decode cX7_doesCut 48 = .ok (.getfield 77, 3) := by decide +kernel
theorem dX7_doesCut_51 : decode cX7_doesCut 51 = .ok (.iload_n 1, 1) := by decide +kernel
theorem dX7_doesCut_52 : decode cX7_doesCut 52 = .ok (.iconst 1, 1) := by decide +kernel
theorem dX7_doesCut_53 : decode cX7_doesCut 53 = .ok (.isub, 1) := by decide +kernel
theorem dX7_doesCut_54 : decode cX7_doesCut 54 = .ok (.iaload, 1) := by decide +kernel
theorem dX7_doesCut_55 : decode cX7_doesCut 55 = .ok (.iastore, 1) := by decide +kernel
theorem dX7_doesCut_56 : decode cX7_doesCut 56 = .ok (.iconst 0, 1) := by decide +kernel
theorem dX7_doesCut_57 : decode cX7_doesCut 57 = .ok (.istore_n 2, 1) := by decide +kernel
theorem dX7_doesCut_58 : decode cX7_doesCut 58 = .ok (.iload_n 2, 1) := by decide +kernel
theorem dX7_doesCut_59 : decode cX7_doesCut 59 = .ok (.iload_n 1, 1) := by decide +kernel
theorem dX7_doesCut_60 : decode cX7_doesCut 60 = .ok (.if_icmp .ge 132, 3) := by decide +kernel
theorem dX7_doesCut_63 : decode cX7_doesCut 63 = .ok (.aload_n 0, 1) := by decide +kernel
theorem dX7_doesCut_64 : decode cX7_doesCut 64 = .ok (.getfield 62, 3) := by decide +kernel
theorem dX7_doesCut_67 : decode cX7_doesCut 67 = .ok (.iload_n 2, 1) := by decide +kernel
theorem dX7_doesCut_68 : decode cX7_doesCut 68 = .ok (.iload_n 1, 1) := by decide +kernel
theorem dX7_doesCut_69 : decode cX7_doesCut 69 = .ok (.invokestatic 144, 3) := by decide +kernel
theorem dX7_doesCut_72 : decode cX7_doesCut 72 = .ok (.istore_n 3, 1) := by decide +kernel
theorem dX7_doesCut_73 : decode cX7_doesCut 73 = .ok (.aload_n 0, 1) := by decide +kernel
theorem dX7_doesCut_74 : decode cX7_doesCut 74 = .ok (.getfield 65, 3) := by decide +kernel
theorem dX7_doesCut_77 : decode cX7_doesCut 77 = .ok (.iload_n 1, 1) := by decide +kernel
theorem dX7_doesCut_78 : decode cX7_doesCut 78 = .ok (.iaload, 1) := by decide +kernel
theorem dX7_doesCut_79 : decode cX7_doesCut 79 = .ok (.aload_n 0, 1) := by decide +kernel
theorem dX7_doesCut_80 : decode cX7_doesCut 80 = .ok (.getfield 65, 3) := by decide +kernel
theorem dX7_doesCut_83 : decode cX7_doesCut 83 = .ok (.iload_n 2, 1) := by decide +kernel
theorem dX7_doesCut_84 : decode cX7_doesCut 84 = .ok (.iaload, 1) := by decide +kernel
theorem dX7_doesCut_85 : decode cX7_doesCut 85 = .ok (.isub, 1) := by decide +kernel
theorem dX7_doesCut_86 : decode cX7_doesCut 86 = .ok (.istore 4, 2) := by decide +kernel
theorem dX7_doesCut_88 : decode cX7_doesCut 88 = .ok (.iload_n 3, 1) := by decide +kernel
theorem dX7_doesCut_89 : decode cX7_doesCut 89 = .ok (.iconst 2, 1) := by decide +kernel
theorem dX7_doesCut_90 : decode cX7_doesCut 90 = .ok (.aload_n 0, 1) := by decide +kernel
theorem dX7_doesCut_91 : decode cX7_doesCut 91 = .ok (.getfield 62, 3) := by decide +kernel
theorem dX7_doesCut_94 : decode cX7_doesCut 94 = .ok (.iconst 3, 1) := by decide +kernel
theorem dX7_doesCut_95 : decode cX7_doesCut 95 = .ok (.iaload, 1) := by decide +kernel
theorem dX7_doesCut_96 : decode cX7_doesCut 96 = .ok (.imul, 1) := by decide +kernel
theorem dX7_doesCut_97 : decode cX7_doesCut 97 = .ok (.isub, 1) := by decide +kernel
theorem dX7_doesCut_98 : decode cX7_doesCut 98 = .ok (.istore 5, 2) := by decide +kernel
theorem dX7_doesCut_100 : decode cX7_doesCut 100 = .ok (.iload_n 3, 1) := by decide +kernel
theorem dX7_doesCut_101 : decode cX7_doesCut 101 = .ok (.iconst 2, 1) := by decide +kernel
theorem dX7_doesCut_102 : decode cX7_doesCut 102 = .ok (.aload_n 0, 1) := by decide +kernel
theorem dX7_doesCut_103 : decode cX7_doesCut 103 = .ok (.getfield 62, 3) := by decide +kernel
theorem dX7_doesCut_106 : decode cX7_doesCut 106 = .ok (.iconst 3, 1) := by decide +kernel
theorem dX7_doesCut_107 : decode cX7_doesCut 107 = .ok (.iaload, 1) := by decide +kernel
theorem dX7_doesCut_108 : decode cX7_doesCut 108 = .ok (.imul, 1) := by decide +kernel
theorem dX7_doesCut_109 : decode cX7_doesCut 109 = .ok (.iadd, 1) := by decide +kernel
theorem dX7_doesCut_110 : decode cX7_doesCut 110 = .ok (.istore 6, 2) := by decide +kernel
theorem dX7_doesCut_112 : decode cX7_doesCut 112 = .ok (.iload 5, 2) := by decide +kernel
theorem dX7_doesCut_114 : decode cX7_doesCut 114 = .ok (.aload_n 0, 1) := by decide +kernel
theorem dX7_doesCut_115 : decode cX7_doesCut 115 = .ok (.getfield 71, 3) := by decide +kernel
theorem dX7_doesCut_118 : decode cX7_doesCut 118 = .ok (.iload_n 1, 1) := by decide +kernel
theorem dX7_doesCut_119 : decode cX7_doesCut 119 = .ok (.iaload, 1) := by decide +kernel
theorem dX7_doesCut_120 : decode cX7_doesCut 120 = .ok (.imul, 1) := by decide +kernel
theorem dX7_doesCut_121 : decode cX7_doesCut 121 = .ok (.aload_n 0, 1) := by decide +kernel
theorem dX7_doesCut_122 : decode cX7_doesCut 122 = .ok (.getfield 68, 3) := by decide +kernel
theorem dX7_doesCut_125 : decode cX7_doesCut 125 = .ok (.iload_n 1, 1) := by decide +kernel
theorem dX7_doesCut_126 : decode cX7_doesCut 126 = .ok (.iaload, 1) := by decide +kernel
theorem dX7_doesCut_127 : decode cX7_doesCut 127 = .ok (.iload 4, 2) := by decide +kernel
theorem dX7_doesCut_129 : decode cX7_doesCut 129 = .ok (.imul, 1) := by decide +kernel
theorem dX7_doesCut_130 : decode cX7_doesCut 130 = .ok (.if_icmp .le 19, 3) := by decide +kernel
theorem dX7_doesCut_133 : decode cX7_doesCut 133 = .ok (.aload_n 0, 1) := by decide +kernel
theorem dX7_doesCut_134 : decode cX7_doesCut 134 = .ok (.getfield 68, 3) := by decide +kernel
theorem dX7_doesCut_137 : decode cX7_doesCut 137 = .ok (.iload_n 1, 1) := by decide +kernel
theorem dX7_doesCut_138 : decode cX7_doesCut 138 = .ok (.iload 5, 2) := by decide +kernel
theorem dX7_doesCut_140 : decode cX7_doesCut 140 = .ok (.iastore, 1) := by decide +kernel
theorem dX7_doesCut_141 : decode cX7_doesCut 141 = .ok (.aload_n 0, 1) := by decide +kernel
theorem dX7_doesCut_142 : decode cX7_doesCut 142 = .ok (.getfield 71, 3) := by decide +kernel
theorem dX7_doesCut_145 : decode cX7_doesCut 145 = .ok (.iload_n 1, 1) := by decide +kernel
theorem dX7_doesCut_146 : decode cX7_doesCut 146 = .ok (.iload 4, 2) := by decide +kernel
theorem dX7_doesCut_148 : decode cX7_doesCut 148 = .ok (.iastore, 1) := by decide +kernel
theorem dX7_doesCut_149 : decode cX7_doesCut 149 = .ok (.iload 6, 2) := by decide +kernel
theorem dX7_doesCut_151 : decode cX7_doesCut 151 = .ok (.aload_n 0, 1) := by decide +kernel
theorem dX7_doesCut_152 : decode cX7_doesCut 152 = .ok (.getfield 77, 3) := by decide +kernel
theorem dX7_doesCut_155 : decode cX7_doesCut 155 = .ok (.iload_n 1, 1) := by decide +kernel
theorem dX7_doesCut_156 : decode cX7_doesCut 156 = .ok (.iaload, 1) := by decide +kernel
theorem dX7_doesCut_157 : decode cX7_doesCut 157 = .ok (.imul, 1) := by decide +kernel
theorem dX7_doesCut_158 : decode cX7_doesCut 158 = .ok (.aload_n 0, 1) := by decide +kernel
theorem dX7_doesCut_159 : decode cX7_doesCut 159 = .ok (.getfield 74, 3) := by decide +kernel
theorem dX7_doesCut_162 : decode cX7_doesCut 162 = .ok (.iload_n 1, 1) := by decide +kernel
theorem dX7_doesCut_163 : decode cX7_doesCut 163 = .ok (.iaload, 1) := by decide +kernel
theorem dX7_doesCut_164 : decode cX7_doesCut 164 = .ok (.iload 4, 2) := by decide +kernel
theorem dX7_doesCut_166 : decode cX7_doesCut 166 = .ok (.imul, 1) := by decide +kernel
theorem dX7_doesCut_167 : decode cX7_doesCut 167 = .ok (.if_icmp .ge 19, 3) := by decide +kernel
theorem dX7_doesCut_170 : decode cX7_doesCut 170 = .ok (.aload_n 0, 1) := by decide +kernel
theorem dX7_doesCut_171 : decode cX7_doesCut 171 = .ok (.getfield 74, 3) := by decide +kernel
theorem dX7_doesCut_174 : decode cX7_doesCut 174 = .ok (.iload_n 1, 1) := by decide +kernel
theorem dX7_doesCut_175 : decode cX7_doesCut 175 = .ok (.iload 6, 2) := by decide +kernel
theorem dX7_doesCut_177 : decode cX7_doesCut 177 = .ok (.iastore, 1) := by decide +kernel
theorem dX7_doesCut_178 : decode cX7_doesCut 178 = .ok (.aload_n 0, 1) := by decide +kernel
theorem dX7_doesCut_179 : decode cX7_doesCut 179 = .ok (.getfield 77, 3) := by decide +kernel
theorem dX7_doesCut_182 : decode cX7_doesCut 182 = .ok (.iload_n 1, 1) := by decide +kernel
theorem dX7_doesCut_183 : decode cX7_doesCut 183 = .ok (.iload 4, 2) := by decide +kernel
theorem dX7_doesCut_185 : decode cX7_doesCut 185 = .ok (.iastore, 1) := by decide +kernel
theorem dX7_doesCut_186 : decode cX7_doesCut 186 = .ok (.iinc 2 1, 3) := by decide +kernel
theorem dX7_doesCut_189 : decode cX7_doesCut 189 = .ok (.goto (-131), 3) := by decide +kernel
theorem dX7_doesCut_192 : decode cX7_doesCut 192 = .ok (.aload_n 0, 1) := by decide +kernel
theorem dX7_doesCut_193 : decode cX7_doesCut 193 = .ok (.getfield 68, 3) := by decide +kernel
theorem dX7_doesCut_196 : decode cX7_doesCut 196 = .ok (.iload_n 1, 1) := by decide +kernel
theorem dX7_doesCut_197 : decode cX7_doesCut 197 = .ok (.iaload, 1) := by decide +kernel
theorem dX7_doesCut_198 : decode cX7_doesCut 198 = .ok (.aload_n 0, 1) := by decide +kernel
theorem dX7_doesCut_199 : decode cX7_doesCut 199 = .ok (.getfield 77, 3) := by decide +kernel
theorem dX7_doesCut_202 : decode cX7_doesCut 202 = .ok (.iload_n 1, 1) := by decide +kernel
theorem dX7_doesCut_203 : decode cX7_doesCut 203 = .ok (.iaload, 1) := by decide +kernel
theorem dX7_doesCut_204 : decode cX7_doesCut 204 = .ok (.imul, 1) := by decide +kernel
theorem dX7_doesCut_205 : decode cX7_doesCut 205 = .ok (.aload_n 0, 1) := by decide +kernel
theorem dX7_doesCut_206 : decode cX7_doesCut 206 = .ok (.getfield 74, 3) := by decide +kernel
theorem dX7_doesCut_209 : decode cX7_doesCut 209 = .ok (.iload_n 1, 1) := by decide +kernel
theorem dX7_doesCut_210 : decode cX7_doesCut 210 = .ok (.iaload, 1) := by decide +kernel
theorem dX7_doesCut_211 : decode cX7_doesCut 211 = .ok (.aload_n 0, 1) := by decide +kernel
theorem dX7_doesCut_212 : decode cX7_doesCut 212 = .ok (.getfield 71, 3) := by decide +kernel
theorem dX7_doesCut_215 : decode cX7_doesCut 215 = .ok (.iload_n 1, 1) := by decide +kernel
theorem dX7_doesCut_216 : decode cX7_doesCut 216 = .ok (.iaload, 1) := by decide +kernel
theorem dX7_doesCut_217 : decode cX7_doesCut 217 = .ok (.imul, 1) := by decide +kernel
theorem dX7_doesCut_218 : decode cX7_doesCut 218 = .ok (.if_icmp .gt 7, 3) := by decide +kernel
theorem dX7_doesCut_221 : decode cX7_doesCut 221 = .ok (.iconst 1, 1) := by decide +kernel
theorem dX7_doesCut_222 : decode cX7_doesCut 222 = .ok (.goto 4, 3) := by decide +kernel
theorem dX7_doesCut_225 : decode cX7_doesCut 225 = .ok (.iconst 0, 1) := by decide +kernel
theorem dX7_doesCut_226 : decode cX7_doesCut 226 = .ok (.ireturn, 1) := by decide +kernel
set_option maxRecDepth 20000 in
theorem ggX7_isBeyond_X7_apart : GoodIn wsX7_isBeyond wsX7_apart := goodIn_r _ [8] (by decide +kernel) (by decide +kernel)
set_option maxRecDepth 20000 in
theorem gX7_isBeyond_X7_apart : GoodIn wsX7_isBeyond (va_wsS RX7 144 yX7_apart wsX7_apart) := goodIn_app (goodIn_of _ (by decide +kernel)) ggX7_isBeyond_X7_apart
theorem dX7_isBeyond_0 : decode cX7_isBeyond 0 = .ok (.aload_n 0, 1) := by decide +kernel
theorem dX7_isBeyond_1 : decode cX7_isBeyond 1 = .ok (.getfield 62, 3) := by decide +kernel
theorem dX7_isBeyond_4 : decode cX7_isBeyond 4 = .ok (.iconst 0, 1) := by decide +kernel
theorem dX7_isBeyond_5 : decode cX7_isBeyond 5 = .ok (.iload_n 1, 1) := by decide +kernel
theorem dX7_isBeyond_6 : decode cX7_isBeyond 6 = .ok (.invokestatic 144, 3) := by decide +kernel
theorem dX7_isBeyond_9 : decode cX7_isBeyond 9 = .ok (.iconst 2, 1) := by decide +kernel
theorem dX7_isBeyond_10 : decode cX7_isBeyond 10 = .ok (.aload_n 0, 1) := by decide +kernel
theorem dX7_isBeyond_11 : decode cX7_isBeyond 11 = .ok (.getfield 62, 3) := by decide +kernel
theorem dX7_isBeyond_14 : decode cX7_isBeyond 14 = .ok (.iconst 3, 1) := by decide +kernel
theorem dX7_isBeyond_15 : decode cX7_isBeyond 15 = .ok (.iaload, 1) := by decide +kernel
theorem dX7_isBeyond_16 : decode cX7_isBeyond 16 = .ok (.imul, 1) := by decide +kernel
theorem dX7_isBeyond_17 : decode cX7_isBeyond 17 = .ok (.iadd, 1) := by decide +kernel
theorem dX7_isBeyond_18 : decode cX7_isBeyond 18 = .ok (.aload_n 0, 1) := by decide +kernel
theorem dX7_isBeyond_19 : decode cX7_isBeyond 19 = .ok (.getfield 71, 3) := by decide +kernel
theorem dX7_isBeyond_22 : decode cX7_isBeyond 22 = .ok (.iload_n 1, 1) := by decide +kernel
theorem dX7_isBeyond_23 : decode cX7_isBeyond 23 = .ok (.iconst 1, 1) := by decide +kernel
theorem dX7_isBeyond_24 : decode cX7_isBeyond 24 = .ok (.isub, 1) := by decide +kernel
theorem dX7_isBeyond_25 : decode cX7_isBeyond 25 = .ok (.iaload, 1) := by decide +kernel
theorem dX7_isBeyond_26 : decode cX7_isBeyond 26 = .ok (.imul, 1) := by decide +kernel
theorem dX7_isBeyond_27 : decode cX7_isBeyond 27 = .ok (.aload_n 0, 1) := by decide +kernel
theorem dX7_isBeyond_28 : decode cX7_isBeyond 28 = .ok (.getfield 65, 3) := by decide +kernel
theorem dX7_isBeyond_31 : decode cX7_isBeyond 31 = .ok (.iload_n 1, 1) := by decide +kernel
theorem dX7_isBeyond_32 : decode cX7_isBeyond 32 = .ok (.iaload, 1) := by decide +kernel
theorem dX7_isBeyond_33 : decode cX7_isBeyond 33 = .ok (.aload_n 0, 1) := by decide +kernel
theorem dX7_isBeyond_34 : decode cX7_isBeyond 34 = .ok (.getfield 68, 3) := by decide +kernel
theorem dX7_isBeyond_37 : decode cX7_isBeyond 37 = .ok (.iload_n 1, 1) := by decide +kernel
theorem dX7_isBeyond_38 : decode cX7_isBeyond 38 = .ok (.iconst 1, 1) := by decide +kernel
theorem dX7_isBeyond_39 : decode cX7_isBeyond 39 = .ok (.isub, 1) := by decide +kernel
theorem dX7_isBeyond_40 : decode cX7_isBeyond 40 = .ok (.iaload, 1) := by decide +kernel
theorem dX7_isBeyond_41 : decode cX7_isBeyond 41 = .ok (.imul, 1) := by decide +kernel
theorem dX7_isBeyond_42 : decode cX7_isBeyond 42 = .ok (.if_icmp .ge 7, 3) := by decide +kernel
theorem dX7_isBeyond_45 : decode cX7_isBeyond 45 = .ok (.iconst 1, 1) := by decide +kernel
theorem dX7_isBeyond_46 : decode cX7_isBeyond 46 = .ok (.goto 4, 3) := by decide +kernel
theorem dX7_isBeyond_49 : decode cX7_isBeyond 49 = .ok (.iconst 0, 1) := by decide +kernel
theorem dX7_isBeyond_50 : decode cX7_isBeyond 50 = .ok (.ireturn, 1) := by decide +kernel
set_option maxRecDepth 20000 in
theorem ggX7_goesOn_X7_isBeyond : GoodIn wsX7_goesOn wsX7_isBeyond := goodIn_r _ [8, 1, 9, 3, 10, 11, 12, 7, 13, 20, 21, 22, 23, 24, 25, 26, 27, 28, 29, 30, 31, 32, 33, 34, 35, 36, 37, 38, 39, 40, 41, 42] (by decide +kernel) (by decide +kernel)
set_option maxRecDepth 20000 in
theorem gX7_goesOn_X7_isBeyond : GoodIn wsX7_goesOn (wsV RX7 148 RX7 yX7_isBeyond wsX7_isBeyond) := goodIn_app (goodIn_of _ (by decide +kernel)) ggX7_goesOn_X7_isBeyond
set_option maxRecDepth 20000 in
theorem ggX7_goesOn_X7_doesCut : GoodIn wsX7_goesOn wsX7_doesCut := goodIn_r _ [17, 10, 9, 18, 19, 1, 3, 11, 12, 7, 13, 20, 21, 22, 23, 24, 25, 26, 27, 28, 29, 30, 31, 32, 33, 34, 35, 36, 37, 38, 39, 40, 41, 42] (by decide +kernel) (by decide +kernel)
set_option maxRecDepth 20000 in
theorem gX7_goesOn_X7_doesCut : GoodIn wsX7_goesOn (wsV RX7 151 RX7 yX7_doesCut wsX7_doesCut) := goodIn_app (goodIn_of _ (by decide +kernel)) ggX7_goesOn_X7_doesCut
theorem dX7_goesOn_0 : decode cX7_goesOn 0 = .ok (.aload_n 0, 1) := by decide +kernel
theorem dX7_goesOn_1 : decode cX7_goesOn 1 = .ok (.getfield 62, 3) := by decide +kernel
theorem dX7_goesOn_4 : decode cX7_goesOn 4 = .ok (.iconst 0, 1) := by decide +kernel
theorem dX7_goesOn_5 : decode cX7_goesOn 5 = .ok (.iaload, 1) := by decide +kernel
theorem dX7_goesOn_6 : decode cX7_goesOn 6 = .ok (.iconst 1, 1) := by decide +kernel
theorem dX7_goesOn_7 : decode cX7_goesOn 7 = .ok (.isub, 1) := by decide +kernel
theorem dX7_goesOn_8 : decode cX7_goesOn 8 = .ok (.istore_n 1, 1) := by decide +kernel
theorem dX7_goesOn_9 : decode cX7_goesOn 9 = .ok (.iload_n 1, 1) := by decide +kernel
theorem dX7_goesOn_10 : decode cX7_goesOn 10 = .ok (.iconst 1, 1) := by decide +kernel
theorem dX7_goesOn_11 : decode cX7_goesOn 11 = .ok (.if_icmp .ge 27, 3) := by decide +kernel
theorem dX7_goesOn_14 : decode cX7_goesOn 14 = .ok (.iload_n 1, 1) := by decide +kernel
theorem dX7_goesOn_15 : decode cX7_goesOn 15 = .ok (.ifCond .ne 14, 3) := by decide +kernel
theorem dX7_goesOn_18 : decode cX7_goesOn 18 = .ok (.aload_n 0, 1) := by decide +kernel
theorem dX7_goesOn_19 : decode cX7_goesOn 19 = .ok (.getfield 141, 3) := by decide +kernel
theorem dX7_goesOn_22 : decode cX7_goesOn 22 = .ok (.ifCond .ne 7, 3) := by decide +kernel
theorem dX7_goesOn_25 : decode cX7_goesOn 25 = .ok (.iconst 1, 1) := by decide +kernel
theorem dX7_goesOn_26 : decode cX7_goesOn 26 = .ok (.goto 4, 3) := by decide +kernel
theorem dX7_goesOn_29 : decode cX7_goesOn 29 = .ok (.iconst 0, 1) := by decide +kernel
theorem dX7_goesOn_30 : decode cX7_goesOn 30 = .ok (.istore_n 2, 1) := by decide +kernel
theorem dX7_goesOn_31 : decode cX7_goesOn 31 = .ok (.aload_n 0, 1) := by decide +kernel
theorem dX7_goesOn_32 : decode cX7_goesOn 32 = .ok (.iconst 1, 1) := by decide +kernel
theorem dX7_goesOn_33 : decode cX7_goesOn 33 = .ok (.putfield 141, 3) := by decide +kernel
theorem dX7_goesOn_36 : decode cX7_goesOn 36 = .ok (.iload_n 2, 1) := by decide +kernel
theorem dX7_goesOn_37 : decode cX7_goesOn 37 = .ok (.ireturn, 1) := by decide +kernel
theorem dX7_goesOn_38 : decode cX7_goesOn 38 = .ok (.aload_n 0, 1) := by decide +kernel
theorem dX7_goesOn_39 : decode cX7_goesOn 39 = .ok (.getfield 141, 3) := by decide +kernel
theorem dX7_goesOn_42 : decode cX7_goesOn 42 = .ok (.ifCond .ne 15, 3) := by decide +kernel
theorem dX7_goesOn_45 : decode cX7_goesOn 45 = .ok (.aload_n 0, 1) := by decide +kernel
theorem dX7_goesOn_46 : decode cX7_goesOn 46 = .ok (.iconst 1, 1) := by decide +kernel
theorem dX7_goesOn_47 : decode cX7_goesOn 47 = .ok (.putfield 141, 3) := by decide +kernel
theorem dX7_goesOn_50 : decode cX7_goesOn 50 = .ok (.aload_n 0, 1) := by decide +kernel
theorem dX7_goesOn_51 : decode cX7_goesOn 51 = .ok (.getfield 65, 3) := by decide +kernel
theorem dX7_goesOn_54 : decode cX7_goesOn 54 = .ok (.iconst 1, 1) := by decide +kernel
theorem dX7_goesOn_55 : decode cX7_goesOn 55 = .ok (.iconst 0, 1) := by decide +kernel
theorem dX7_goesOn_56 : decode cX7_goesOn 56 = .ok (.iastore, 1) := by decide +kernel
theorem dX7_goesOn_57 : decode cX7_goesOn 57 = .ok (.aload_n 0, 1) := by decide +kernel
theorem dX7_goesOn_58 : decode cX7_goesOn 58 = .ok (.getfield 141, 3) := by decide +kernel
theorem dX7_goesOn_61 : decode cX7_goesOn 61 = .ok (.ifCond .le 94, 3) := by decide +kernel
theorem dX7_goesOn_64 : decode cX7_goesOn 64 = .ok (.aload_n 0, 1) := by decide +kernel
theorem dX7_goesOn_65 : decode cX7_goesOn 65 = .ok (.getfield 65, 3) := by decide +kernel
theorem dX7_goesOn_68 : decode cX7_goesOn 68 = .ok (.aload_n 0, 1) := by decide +kernel
theorem dX7_goesOn_69 : decode cX7_goesOn 69 = .ok (.getfield 141, 3) := by decide +kernel
theorem dX7_goesOn_72 : decode cX7_goesOn 72 = .ok (.dup2, 1) := by decide +kernel
theorem dX7_goesOn_73 : decode cX7_goesOn 73 = .ok (.iaload, 1) := by decide +kernel
theorem dX7_goesOn_74 : decode cX7_goesOn 74 = .ok (.iconst 1, 1) := by decide +kernel
theorem dX7_goesOn_75 : decode cX7_goesOn 75 = .ok (.iadd, 1) := by decide +kernel
theorem dX7_goesOn_76 : decode cX7_goesOn 76 = .ok (.iastore, 1) := by decide +kernel
theorem dX7_goesOn_77 : decode cX7_goesOn 77 = .ok (.aload_n 0, 1) := by decide +kernel
theorem dX7_goesOn_78 : decode cX7_goesOn 78 = .ok (.aload_n 0, 1) := by decide +kernel
theorem dX7_goesOn_79 : decode cX7_goesOn 79 = .ok (.getfield 141, 3) := by decide +kernel
theorem dX7_goesOn_82 : decode cX7_goesOn 82 = .ok (.invokevirtual 148, 3) := by decide +kernel
theorem dX7_goesOn_85 : decode cX7_goesOn 85 = .ok (.ifCond .eq 16, 3) := by decide +kernel
theorem dX7_goesOn_88 : decode cX7_goesOn 88 = .ok (.aload_n 0, 1) := by decide +kernel
theorem dX7_goesOn_89 : decode cX7_goesOn 89 = .ok (.dup, 1) := by decide +kernel
theorem dX7_goesOn_90 : decode cX7_goesOn 90 = .ok (.getfield 141, 3) := by decide +kernel
theorem dX7_goesOn_93 : decode cX7_goesOn 93 = .ok (.iconst 1, 1) := by decide +kernel
theorem dX7_goesOn_94 : decode cX7_goesOn 94 = .ok (.isub, 1) := by decide +kernel
theorem dX7_goesOn_95 : decode cX7_goesOn 95 = .ok (.putfield 141, 3) := by decide +kernel
theorem dX7_goesOn_98 : decode cX7_goesOn 98 = .ok (.goto (-41), 3) := by decide +kernel
theorem dX7_goesOn_101 : decode cX7_goesOn 101 = .ok (.aload_n 0, 1) := by decide +kernel
theorem dX7_goesOn_102 : decode cX7_goesOn 102 = .ok (.aload_n 0, 1) := by decide +kernel
theorem dX7_goesOn_103 : decode cX7_goesOn 103 = .ok (.getfield 141, 3) := by decide +kernel
theorem dX7_goesOn_106 : decode cX7_goesOn 106 = .ok (.invokevirtual 151, 3) := by decide +kernel
theorem dX7_goesOn_109 : decode cX7_goesOn 109 = .ok (.ifCond .eq (-52), 3) := by decide +kernel
theorem dX7_goesOn_112 : decode cX7_goesOn 112 = .ok (.aload_n 0, 1) := by decide +kernel
theorem dX7_goesOn_113 : decode cX7_goesOn 113 = .ok (.getfield 141, 3) := by decide +kernel
theorem dX7_goesOn_116 : decode cX7_goesOn 116 = .ok (.iload_n 1, 1) := by decide +kernel
theorem dX7_goesOn_117 : decode cX7_goesOn 117 = .ok (.if_icmp .ne 5, 3) := by decide +kernel
theorem dX7_goesOn_120 : decode cX7_goesOn 120 = .ok (.iconst 1, 1) := by decide +kernel
theorem dX7_goesOn_121 : decode cX7_goesOn 121 = .ok (.ireturn, 1) := by decide +kernel
theorem dX7_goesOn_122 : decode cX7_goesOn 122 = .ok (.aload_n 0, 1) := by decide +kernel
theorem dX7_goesOn_123 : decode cX7_goesOn 123 = .ok (.dup, 1) := by decide +kernel
theorem dX7_goesOn_124 : decode cX7_goesOn 124 = .ok (.getfield 141, 3) := by decide +kernel
theorem dX7_goesOn_127 : decode cX7_goesOn 127 = .ok (.iconst 1, 1) := by decide +kernel
theorem dX7_goesOn_128 : decode cX7_goesOn 128 = .ok (.iadd, 1) := by decide +kernel
theorem dX7_goesOn_129 : decode cX7_goesOn 129 = .ok (.putfield 141, 3) := by decide +kernel
theorem dX7_goesOn_132 : decode cX7_goesOn 132 = .ok (.aload_n 0, 1) := by decide +kernel
theorem dX7_goesOn_133 : decode cX7_goesOn 133 = .ok (.getfield 65, 3) := by decide +kernel
theorem dX7_goesOn_136 : decode cX7_goesOn 136 = .ok (.aload_n 0, 1) := by decide +kernel
theorem dX7_goesOn_137 : decode cX7_goesOn 137 = .ok (.getfield 141, 3) := by decide +kernel
theorem dX7_goesOn_140 : decode cX7_goesOn 140 = .ok (.aload_n 0, 1) := by decide +kernel
theorem dX7_goesOn_141 : decode cX7_goesOn 141 = .ok (.getfield 65, 3) := by decide +kernel
theorem dX7_goesOn_144 : decode cX7_goesOn 144 = .ok (.aload_n 0, 1) := by decide +kernel
theorem dX7_goesOn_145 : decode cX7_goesOn 145 = .ok (.getfield 141, 3) := by decide +kernel
theorem dX7_goesOn_148 : decode cX7_goesOn 148 = .ok (.iconst 1, 1) := by decide +kernel
theorem dX7_goesOn_149 : decode cX7_goesOn 149 = .ok (.isub, 1) := by decide +kernel
theorem dX7_goesOn_150 : decode cX7_goesOn 150 = .ok (.iaload, 1) := by decide +kernel
theorem dX7_goesOn_151 : decode cX7_goesOn 151 = .ok (.iastore, 1) := by decide +kernel
theorem dX7_goesOn_152 : decode cX7_goesOn 152 = .ok (.goto (-95), 3) := by decide +kernel
theorem dX7_goesOn_155 : decode cX7_goesOn 155 = .ok (.aload_n 0, 1) := by decide +kernel
theorem dX7_goesOn_156 : decode cX7_goesOn 156 = .ok (.iconst 0, 1) := by decide +kernel
theorem dX7_goesOn_157 : decode cX7_goesOn 157 = .ok (.putfield 141, 3) := by decide +kernel
theorem dX7_goesOn_160 : decode cX7_goesOn 160 = .ok (.aload_n 0, 1) := by decide +kernel
theorem dX7_goesOn_161 : decode cX7_goesOn 161 = .ok (.getfield 62, 3) := by decide +kernel
theorem dX7_goesOn_164 : decode cX7_goesOn 164 = .ok (.iconst 0, 1) := by decide +kernel
theorem dX7_goesOn_165 : decode cX7_goesOn 165 = .ok (.iconst 0, 1) := by decide +kernel
theorem dX7_goesOn_166 : decode cX7_goesOn 166 = .ok (.iastore, 1) := by decide +kernel
theorem dX7_goesOn_167 : decode cX7_goesOn 167 = .ok (.iconst 0, 1) := by decide +kernel
theorem dX7_goesOn_168 : decode cX7_goesOn 168 = .ok (.ireturn, 1) := by decide +kernel
set_option maxRecDepth 20000 in
theorem ggX7_standing_X7_begin : GoodIn wsX7_standing wsX7_begin := goodIn_r _ [5, 6, 7, 8, 9, 10, 11, 12, 13, 14, 4, 15, 31, 32, 33, 34, 35, 36, 37, 38, 39, 40, 41, 42, 43, 44, 45, 46, 47, 48, 49, 50, 51, 52, 53] (by decide +kernel) (by decide +kernel)
set_option maxRecDepth 20000 in
theorem gX7_standing_X7_begin : GoodIn wsX7_standing (wsV RX7 154 RX7 yX7_begin wsX7_begin) := goodIn_app (goodIn_of _ (by decide +kernel)) ggX7_standing_X7_begin
set_option maxRecDepth 20000 in
theorem ggX7_standing_X7_goesOn : GoodIn wsX7_standing wsX7_goesOn := goodIn_r _ [19, 6, 7, 8, 20, 21, 22, 4, 23, 10, 9, 24, 25, 26, 27, 28, 29, 30, 11, 12, 31, 32, 33, 34, 35, 36, 37, 38, 39, 40, 41, 42, 43, 44, 45, 46, 47, 48, 49, 50, 51, 52, 53] (by decide +kernel) (by decide +kernel)
set_option maxRecDepth 20000 in
theorem gX7_standing_X7_goesOn : GoodIn wsX7_standing (wsV RX7 158 RX7 yX7_goesOn wsX7_goesOn) := goodIn_app (goodIn_of _ (by decide +kernel)) ggX7_standing_X7_goesOn
theorem dX7_standing_0 : decode cX7_standing 0 = .ok (.aload_n 0, 1) := by decide +kernel
theorem dX7_standing_1 : decode cX7_standing 1 = .ok (.aload_n 1, 1) := by decide +kernel
theorem dX7_standing_2 : decode cX7_standing 2 = .ok (.invokevirtual 154, 3) := by decide +kernel
theorem dX7_standing_5 : decode cX7_standing 5 = .ok (.iconst 0, 1) := by decide +kernel
theorem dX7_standing_6 : decode cX7_standing 6 = .ok (.istore_n 2, 1) := by decide +kernel
theorem dX7_standing_7 : decode cX7_standing 7 = .ok (.aload_n 0, 1) := by decide +kernel
theorem dX7_standing_8 : decode cX7_standing 8 = .ok (.invokevirtual 158, 3) := by decide +kernel
theorem dX7_standing_11 : decode cX7_standing 11 = .ok (.ifCond .eq 9, 3) := by decide +kernel
theorem dX7_standing_14 : decode cX7_standing 14 = .ok (.iinc 2 1, 3) := by decide +kernel
theorem dX7_standing_17 : decode cX7_standing 17 = .ok (.goto (-10), 3) := by decide +kernel
theorem dX7_standing_20 : decode cX7_standing 20 = .ok (.iload_n 2, 1) := by decide +kernel
theorem dX7_standing_21 : decode cX7_standing 21 = .ok (.ireturn, 1) := by decide +kernel
set_option maxRecDepth 20000 in
theorem ggX7_isNumbered_X7_begin : GoodIn wsX7_isNumbered wsX7_begin := goodIn_r _ [6, 7, 8, 9, 10, 11, 12, 13, 14, 15, 5, 16, 32, 33, 34, 35, 36, 37, 38, 39, 40, 41, 42, 43, 44, 45, 46, 47, 48, 49, 50, 51, 52, 53, 54] (by decide +kernel) (by decide +kernel)
set_option maxRecDepth 20000 in
theorem gX7_isNumbered_X7_begin : GoodIn wsX7_isNumbered (wsV RX7 154 RX7 yX7_begin wsX7_begin) := goodIn_app (goodIn_of _ (by decide +kernel)) ggX7_isNumbered_X7_begin
set_option maxRecDepth 20000 in
theorem ggX7_isNumbered_X7_goesOn : GoodIn wsX7_isNumbered wsX7_goesOn := goodIn_r _ [20, 7, 8, 9, 21, 22, 23, 5, 24, 11, 10, 25, 26, 27, 28, 29, 30, 31, 12, 13, 32, 33, 34, 35, 36, 37, 38, 39, 40, 41, 42, 43, 44, 45, 46, 47, 48, 49, 50, 51, 52, 53, 54] (by decide +kernel) (by decide +kernel)
set_option maxRecDepth 20000 in
theorem gX7_isNumbered_X7_goesOn : GoodIn wsX7_isNumbered (wsV RX7 158 RX7 yX7_goesOn wsX7_goesOn) := goodIn_app (goodIn_of _ (by decide +kernel)) ggX7_isNumbered_X7_goesOn
theorem dX7_isNumbered_0 : decode cX7_isNumbered 0 = .ok (.aload_n 0, 1) := by decide +kernel
theorem dX7_isNumbered_1 : decode cX7_isNumbered 1 = .ok (.aload_n 0, 1) := by decide +kernel
theorem dX7_isNumbered_2 : decode cX7_isNumbered 2 = .ok (.getfield 46, 3) := by decide +kernel
theorem dX7_isNumbered_5 : decode cX7_isNumbered 5 = .ok (.invokevirtual 154, 3) := by decide +kernel
theorem dX7_isNumbered_8 : decode cX7_isNumbered 8 = .ok (.iconst 0, 1) := by decide +kernel
theorem dX7_isNumbered_9 : decode cX7_isNumbered 9 = .ok (.istore_n 2, 1) := by decide +kernel
theorem dX7_isNumbered_10 : decode cX7_isNumbered 10 = .ok (.aload_n 0, 1) := by decide +kernel
theorem dX7_isNumbered_11 : decode cX7_isNumbered 11 = .ok (.invokevirtual 158, 3) := by decide +kernel
theorem dX7_isNumbered_14 : decode cX7_isNumbered 14 = .ok (.ifCond .eq 16, 3) := by decide +kernel
theorem dX7_isNumbered_17 : decode cX7_isNumbered 17 = .ok (.iload_n 2, 1) := by decide +kernel
theorem dX7_isNumbered_18 : decode cX7_isNumbered 18 = .ok (.iload_n 1, 1) := by decide +kernel
theorem dX7_isNumbered_19 : decode cX7_isNumbered 19 = .ok (.if_icmp .ne 5, 3) := by decide +kernel
theorem dX7_isNumbered_22 : decode cX7_isNumbered 22 = .ok (.iconst 1, 1) := by decide +kernel
theorem dX7_isNumbered_23 : decode cX7_isNumbered 23 = .ok (.ireturn, 1) := by decide +kernel
theorem dX7_isNumbered_24 : decode cX7_isNumbered 24 = .ok (.iinc 2 1, 3) := by decide +kernel
theorem dX7_isNumbered_27 : decode cX7_isNumbered 27 = .ok (.goto (-17), 3) := by decide +kernel
theorem dX7_isNumbered_30 : decode cX7_isNumbered 30 = .ok (.iconst 0, 1) := by decide +kernel
theorem dX7_isNumbered_31 : decode cX7_isNumbered 31 = .ok (.ireturn, 1) := by decide +kernel
set_option maxRecDepth 20000 in
theorem ggX7_number_X7_isArrival : GoodIn wsX7_number wsX7_isArrival := goodIn_r _ [7, 8, 9, 10, 6, 11, 44, 45, 46, 47, 48, 49, 50, 51, 52, 53, 54, 55, 56, 57, 58, 59, 60, 61, 62, 63, 64, 65, 66] (by decide +kernel) (by decide +kernel)
set_option maxRecDepth 20000 in
theorem gX7_number_X7_isArrival : GoodIn wsX7_number (wsV RX7 119 RX7 yX7_isArrival wsX7_isArrival) := goodIn_app (goodIn_of _ (by decide +kernel)) ggX7_number_X7_isArrival
set_option maxRecDepth 20000 in
theorem ggX7_number_X7_isNumbered : GoodIn wsX7_number wsX7_isNumbered := goodIn_r _ [15, 8, 16, 17, 18, 6, 19, 20, 21, 2, 22, 23, 24, 25, 26, 27, 28, 29, 30, 31, 32, 33, 34, 35, 36, 37, 38, 39, 40, 41, 42, 43, 44, 45, 46, 47, 48, 49, 50, 51, 52, 53, 54, 55, 56, 57, 58, 59, 60, 61, 62, 63, 64, 65, 66] (by decide +kernel) (by decide +kernel)
set_option maxRecDepth 20000 in
theorem gX7_number_X7_isNumbered : GoodIn wsX7_number (wsV RX7 161 RX7 yX7_isNumbered wsX7_isNumbered) := goodIn_app (goodIn_of _ (by decide +kernel)) ggX7_number_X7_isNumbered
theorem dX7_number_0 : decode cX7_number 0 = .ok (.aload_n 0, 1) := by decide +kernel
theorem dX7_number_1 : decode cX7_number 1 = .ok (.iconst 0, 1) := by decide +kernel
theorem dX7_number_2 : decode cX7_number 2 = .ok (.putfield 1, 3) := by decide +kernel
theorem dX7_number_5 : decode cX7_number 5 = .ok (.iload_n 1, 1) := by decide +kernel
theorem dX7_number_6 : decode cX7_number 6 = .ok (.ifCond .lt 11, 3) := by decide +kernel
theorem dX7_number_9 : decode cX7_number 9 = .ok (.aload_n 0, 1) := by decide +kernel
theorem dX7_number_10 : decode cX7_number 10 = .ok (.iload_n 2, 1) := by decide +kernel
theorem dX7_number_11 : decode cX7_number 11 = .ok (.invokevirtual 119, 3) := by decide +kernel
theorem dX7_number_14 : decode cX7_number 14 = .ok (.ifCond .ne 5, 3) := by decide +kernel
theorem dX7_number_17 : decode cX7_number 17 = .ok (.iconst (-1), 1) := by decide +kernel
theorem dX7_number_18 : decode cX7_number 18 = .ok (.ireturn, 1) := by decide +kernel
theorem dX7_number_19 : decode cX7_number 19 = .ok (.aload_n 0, 1) := by decide +kernel
theorem dX7_number_20 : decode cX7_number 20 = .ok (.iload_n 1, 1) := by decide +kernel
theorem dX7_number_21 : decode cX7_number 21 = .ok (.invokevirtual 161, 3) := by decide +kernel
theorem dX7_number_24 : decode cX7_number 24 = .ok (.ifCond .eq 12, 3) := by decide +kernel
theorem dX7_number_27 : decode cX7_number 27 = .ok (.aload_n 0, 1) := by decide +kernel
theorem dX7_number_28 : decode cX7_number 28 = .ok (.getfield 65, 3) := by decide +kernel
theorem dX7_number_31 : decode cX7_number 31 = .ok (.iload_n 2, 1) := by decide +kernel
theorem dX7_number_32 : decode cX7_number 32 = .ok (.iaload, 1) := by decide +kernel
theorem dX7_number_33 : decode cX7_number 33 = .ok (.goto 5, 3) := by decide +kernel
theorem dX7_number_36 : decode cX7_number 36 = .ok (.bipush (-9), 2) := by decide +kernel
theorem dX7_number_38 : decode cX7_number 38 = .ok (.ireturn, 1) := by decide +kernel
theorem dX7_common_0 : decode cX7_common 0 = .ok (.iload_n 0, 1) := by decide +kernel
theorem dX7_common_1 : decode cX7_common 1 = .ok (.ifCond .ge 8, 3) := by decide +kernel
theorem dX7_common_4 : decode cX7_common 4 = .ok (.iload_n 0, 1) := by decide +kernel
theorem dX7_common_5 : decode cX7_common 5 = .ok (.ineg, 1) := by decide +kernel
theorem dX7_common_6 : decode cX7_common 6 = .ok (.goto 4, 3) := by decide +kernel
theorem dX7_common_9 : decode cX7_common 9 = .ok (.iload_n 0, 1) := by decide +kernel
theorem dX7_common_10 : decode cX7_common 10 = .ok (.istore_n 2, 1) := by decide +kernel
theorem dX7_common_11 : decode cX7_common 11 = .ok (.iload_n 1, 1) := by decide +kernel
theorem dX7_common_12 : decode cX7_common 12 = .ok (.istore_n 3, 1) := by decide +kernel
theorem dX7_common_13 : decode cX7_common 13 = .ok (.iload_n 3, 1) := by decide +kernel
theorem dX7_common_14 : decode cX7_common 14 = .ok (.ifCond .eq 16, 3) := by decide +kernel
theorem dX7_common_17 : decode cX7_common 17 = .ok (.iload_n 2, 1) := by decide +kernel
theorem dX7_common_18 : decode cX7_common 18 = .ok (.iload_n 3, 1) := by decide +kernel
theorem dX7_common_19 : decode cX7_common 19 = .ok (.irem, 1) := by decide +kernel
theorem dX7_common_20 : decode cX7_common 20 = .ok (.istore 4, 2) := by decide +kernel
theorem dX7_common_22 : decode cX7_common 22 = .ok (.iload_n 3, 1) := by decide +kernel
theorem dX7_common_23 : decode cX7_common 23 = .ok (.istore_n 2, 1) := by decide +kernel
theorem dX7_common_24 : decode cX7_common 24 = .ok (.iload 4, 2) := by decide +kernel
theorem dX7_common_26 : decode cX7_common 26 = .ok (.istore_n 3, 1) := by decide +kernel
theorem dX7_common_27 : decode cX7_common 27 = .ok (.goto (-14), 3) := by decide +kernel
theorem dX7_common_30 : decode cX7_common 30 = .ok (.iload_n 2, 1) := by decide +kernel
theorem dX7_common_31 : decode cX7_common 31 = .ok (.ireturn, 1) := by decide +kernel
set_option maxRecDepth 20000 in
theorem ggX7_least_X7_common : GoodIn wsX7_least wsX7_common := goodIn_r _ [4] (by decide +kernel) (by decide +kernel)
set_option maxRecDepth 20000 in
theorem gX7_least_X7_common : GoodIn wsX7_least (va_wsS RX7 164 yX7_common wsX7_common) := goodIn_app (goodIn_of _ (by decide +kernel)) ggX7_least_X7_common
theorem dX7_least_0 : decode cX7_least 0 = .ok (.iload_n 2, 1) := by decide +kernel
theorem dX7_least_1 : decode cX7_least 1 = .ok (.ifCond .eq 7, 3) := by decide +kernel
theorem dX7_least_4 : decode cX7_least 4 = .ok (.iload_n 0, 1) := by decide +kernel
theorem dX7_least_5 : decode cX7_least 5 = .ok (.goto 4, 3) := by decide +kernel
theorem dX7_least_8 : decode cX7_least 8 = .ok (.iload_n 1, 1) := by decide +kernel
theorem dX7_least_9 : decode cX7_least 9 = .ok (.iload_n 0, 1) := by decide +kernel
theorem dX7_least_10 : decode cX7_least 10 = .ok (.iload_n 1, 1) := by decide +kernel
theorem dX7_least_11 : decode cX7_least 11 = .ok (.invokestatic 164, 3) := by decide +kernel
theorem dX7_least_14 : decode cX7_least 14 = .ok (.idiv, 1) := by decide +kernel
theorem dX7_least_15 : decode cX7_least 15 = .ok (.ireturn, 1) := by decide +kernel
set_option maxRecDepth 20000 in
theorem ggX7_ends_X7_least : GoodIn wsX7_ends wsX7_least := goodIn_r _ [4, 5, 6, 3, 7] (by decide +kernel) (by decide +kernel)
set_option maxRecDepth 20000 in
theorem gX7_ends_X7_least : GoodIn wsX7_ends (va_wsS RX7 168 yX7_least wsX7_least) := goodIn_app (goodIn_of _ (by decide +kernel)) ggX7_ends_X7_least
theorem dX7_ends_0 : decode cX7_ends 0 = .ok (.iload 4, 2) := by decide +kernel
theorem dX7_ends_2 : decode cX7_ends 2 = .ok (.iconst 2, 1) := by decide +kernel
theorem dX7_ends_3 : decode cX7_ends 3 = .ok (.if_icmp .ge 21, 3) := by decide +kernel
theorem dX7_ends_6 : decode cX7_ends 6 = .ok (.iload_n 0, 1) := by decide +kernel
theorem dX7_ends_7 : decode cX7_ends 7 = .ok (.iload_n 1, 1) := by decide +kernel
theorem dX7_ends_8 : decode cX7_ends 8 = .ok (.iload 4, 2) := by decide +kernel
theorem dX7_ends_10 : decode cX7_ends 10 = .ok (.ifCond .ne 7, 3) := by decide +kernel
theorem dX7_ends_13 : decode cX7_ends 13 = .ok (.iconst 1, 1) := by decide +kernel
theorem dX7_ends_14 : decode cX7_ends 14 = .ok (.goto 4, 3) := by decide +kernel
theorem dX7_ends_17 : decode cX7_ends 17 = .ok (.iconst 0, 1) := by decide +kernel
theorem dX7_ends_18 : decode cX7_ends 18 = .ok (.invokestatic 168, 3) := by decide +kernel
theorem dX7_ends_21 : decode cX7_ends 21 = .ok (.goto 19, 3) := by decide +kernel
theorem dX7_ends_24 : decode cX7_ends 24 = .ok (.iload_n 2, 1) := by decide +kernel
theorem dX7_ends_25 : decode cX7_ends 25 = .ok (.iload_n 3, 1) := by decide +kernel
theorem dX7_ends_26 : decode cX7_ends 26 = .ok (.iload 4, 2) := by decide +kernel
theorem dX7_ends_28 : decode cX7_ends 28 = .ok (.iconst 2, 1) := by decide +kernel
theorem dX7_ends_29 : decode cX7_ends 29 = .ok (.if_icmp .ne 7, 3) := by decide +kernel
theorem dX7_ends_32 : decode cX7_ends 32 = .ok (.iconst 1, 1) := by decide +kernel
theorem dX7_ends_33 : decode cX7_ends 33 = .ok (.goto 4, 3) := by decide +kernel
theorem dX7_ends_36 : decode cX7_ends 36 = .ok (.iconst 0, 1) := by decide +kernel
theorem dX7_ends_37 : decode cX7_ends 37 = .ok (.invokestatic 168, 3) := by decide +kernel
theorem dX7_ends_40 : decode cX7_ends 40 = .ok (.ireturn, 1) := by decide +kernel
set_option maxRecDepth 20000 in
theorem ggX7_box_X7_in : GoodIn wsX7_box wsX7_in := goodIn_r _ [11] (by decide +kernel) (by decide +kernel)
set_option maxRecDepth 20000 in
theorem gX7_box_X7_in : GoodIn wsX7_box (va_wsS RX7 9 yX7_in wsX7_in) := goodIn_app (goodIn_of _ (by decide +kernel)) ggX7_box_X7_in
set_option maxRecDepth 20000 in
theorem ggX7_box_X7_isNumbered : GoodIn wsX7_box wsX7_isNumbered := goodIn_r _ [15, 3, 16, 17, 18, 10, 19, 20, 21, 22, 4, 5, 6, 7, 23, 24, 25, 26, 27, 28, 29, 30, 31, 32, 33, 34, 35, 36, 37, 38, 39, 40, 50, 51, 52, 53, 54, 55, 56, 57, 58, 59, 60, 61, 62, 63, 64, 65, 66, 67, 68, 69, 70, 71, 72] (by decide +kernel) (by decide +kernel)
set_option maxRecDepth 20000 in
theorem gX7_box_X7_isNumbered : GoodIn wsX7_box (wsV RX7 161 RX7 yX7_isNumbered wsX7_isNumbered) := goodIn_app (goodIn_of _ (by decide +kernel)) ggX7_box_X7_isNumbered
set_option maxRecDepth 20000 in
theorem ggX7_box_X7_ends : GoodIn wsX7_box wsX7_ends := goodIn_r _ [43, 44, 45, 10, 46, 47, 48, 49] (by decide +kernel) (by decide +kernel)
set_option maxRecDepth 20000 in
theorem gX7_box_X7_ends : GoodIn wsX7_box (va_wsS RX7 174 yX7_ends wsX7_ends) := goodIn_app (goodIn_of _ (by decide +kernel)) ggX7_box_X7_ends
theorem dX7_box_0 : decode cX7_box 0 = .ok (.aload_n 0, 1) := by decide +kernel
theorem dX7_box_1 : decode cX7_box 1 = .ok (.iconst 0, 1) := by decide +kernel
theorem dX7_box_2 : decode cX7_box 2 = .ok (.putfield 1, 3) := by decide +kernel
theorem dX7_box_5 : decode cX7_box 5 = .ok (.iload_n 1, 1) := by decide +kernel
theorem dX7_box_6 : decode cX7_box 6 = .ok (.ifCond .lt 15, 3) := by decide +kernel
theorem dX7_box_9 : decode cX7_box 9 = .ok (.iload_n 2, 1) := by decide +kernel
theorem dX7_box_10 : decode cX7_box 10 = .ok (.i2l, 1) := by decide +kernel
theorem dX7_box_11 : decode cX7_box 11 = .ok (.lconst 0, 1) := by decide +kernel
theorem dX7_box_12 : decode cX7_box 12 = .ok (.ldc2_w 172, 3) := by decide +kernel
theorem dX7_box_15 : decode cX7_box 15 = .ok (.invokestatic 9, 3) := by decide +kernel
theorem dX7_box_18 : decode cX7_box 18 = .ok (.ifCond .ne 5, 3) := by decide +kernel
theorem dX7_box_21 : decode cX7_box 21 = .ok (.iconst (-1), 1) := by decide +kernel
theorem dX7_box_22 : decode cX7_box 22 = .ok (.ireturn, 1) := by decide +kernel
theorem dX7_box_23 : decode cX7_box 23 = .ok (.aload_n 0, 1) := by decide +kernel
theorem dX7_box_24 : decode cX7_box 24 = .ok (.iload_n 1, 1) := by decide +kernel
theorem dX7_box_25 : decode cX7_box 25 = .ok (.invokevirtual 161, 3) := by decide +kernel
theorem dX7_box_28 : decode cX7_box 28 = .ok (.ifCond .ne 6, 3) := by decide +kernel
theorem dX7_box_31 : decode cX7_box 31 = .ok (.bipush (-9), 2) := by decide +kernel
theorem dX7_box_33 : decode cX7_box 33 = .ok (.ireturn, 1) := by decide +kernel
theorem dX7_box_34 : decode cX7_box 34 = .ok (.aload_n 0, 1) := by decide +kernel
theorem dX7_box_35 : decode cX7_box 35 = .ok (.getfield 46, 3) := by decide +kernel
theorem dX7_box_38 : decode cX7_box 38 = .ok (.iconst 0, 1) := by decide +kernel
theorem dX7_box_39 : decode cX7_box 39 = .ok (.iaload, 1) := by decide +kernel
theorem dX7_box_40 : decode cX7_box 40 = .ok (.iconst 1, 1) := by decide +kernel
theorem dX7_box_41 : decode cX7_box 41 = .ok (.isub, 1) := by decide +kernel
theorem dX7_box_42 : decode cX7_box 42 = .ok (.istore_n 3, 1) := by decide +kernel
theorem dX7_box_43 : decode cX7_box 43 = .ok (.aload_n 0, 1) := by decide +kernel
theorem dX7_box_44 : decode cX7_box 44 = .ok (.getfield 68, 3) := by decide +kernel
theorem dX7_box_47 : decode cX7_box 47 = .ok (.iload_n 3, 1) := by decide +kernel
theorem dX7_box_48 : decode cX7_box 48 = .ok (.iaload, 1) := by decide +kernel
theorem dX7_box_49 : decode cX7_box 49 = .ok (.aload_n 0, 1) := by decide +kernel
theorem dX7_box_50 : decode cX7_box 50 = .ok (.getfield 71, 3) := by decide +kernel
theorem dX7_box_53 : decode cX7_box 53 = .ok (.iload_n 3, 1) := by decide +kernel
theorem dX7_box_54 : decode cX7_box 54 = .ok (.iaload, 1) := by decide +kernel
theorem dX7_box_55 : decode cX7_box 55 = .ok (.aload_n 0, 1) := by decide +kernel
theorem dX7_box_56 : decode cX7_box 56 = .ok (.getfield 74, 3) := by decide +kernel
theorem dX7_box_59 : decode cX7_box 59 = .ok (.iload_n 3, 1) := by decide +kernel
theorem dX7_box_60 : decode cX7_box 60 = .ok (.iaload, 1) := by decide +kernel
theorem dX7_box_61 : decode cX7_box 61 = .ok (.aload_n 0, 1) := by decide +kernel
theorem dX7_box_62 : decode cX7_box 62 = .ok (.getfield 77, 3) := by decide +kernel
theorem dX7_box_65 : decode cX7_box 65 = .ok (.iload_n 3, 1) := by decide +kernel
theorem dX7_box_66 : decode cX7_box 66 = .ok (.iaload, 1) := by decide +kernel
theorem dX7_box_67 : decode cX7_box 67 = .ok (.iload_n 2, 1) := by decide +kernel
theorem dX7_box_68 : decode cX7_box 68 = .ok (.invokestatic 174, 3) := by decide +kernel
theorem dX7_box_71 : decode cX7_box 71 = .ok (.ireturn, 1) := by decide +kernel
set_option maxRecDepth 20000 in
theorem ggX7_held_X7_in : GoodIn wsX7_held wsX7_in := goodIn_r _ [9] (by decide +kernel) (by decide +kernel)
set_option maxRecDepth 20000 in
theorem gX7_held_X7_in : GoodIn wsX7_held (va_wsS RX7 9 yX7_in wsX7_in) := goodIn_app (goodIn_of _ (by decide +kernel)) ggX7_held_X7_in
set_option maxRecDepth 20000 in
theorem ggX7_held_X7_begin : GoodIn wsX7_held wsX7_begin := goodIn_r _ [13, 14, 15, 5, 16, 17, 18, 19, 20, 21, 8, 22, 38, 39, 40, 41, 42, 43, 44, 45, 46, 47, 48, 49, 50, 51, 52, 53, 54, 55, 56, 57, 58, 59, 60] (by decide +kernel) (by decide +kernel)
set_option maxRecDepth 20000 in
theorem gX7_held_X7_begin : GoodIn wsX7_held (wsV RX7 154 RX7 yX7_begin wsX7_begin) := goodIn_app (goodIn_of _ (by decide +kernel)) ggX7_held_X7_begin
set_option maxRecDepth 20000 in
theorem ggX7_held_X7_goesOn : GoodIn wsX7_held wsX7_goesOn := goodIn_r _ [26, 14, 15, 5, 27, 28, 29, 8, 30, 17, 16, 31, 32, 33, 34, 35, 36, 37, 18, 19, 38, 39, 40, 41, 42, 43, 44, 45, 46, 47, 48, 49, 50, 51, 52, 53, 54, 55, 56, 57, 58, 59, 60] (by decide +kernel) (by decide +kernel)
set_option maxRecDepth 20000 in
theorem gX7_held_X7_goesOn : GoodIn wsX7_held (wsV RX7 158 RX7 yX7_goesOn wsX7_goesOn) := goodIn_app (goodIn_of _ (by decide +kernel)) ggX7_held_X7_goesOn
theorem dX7_held_0 : decode cX7_held 0 = .ok (.aload_n 0, 1) := by decide +kernel
theorem dX7_held_1 : decode cX7_held 1 = .ok (.iconst 0, 1) := by decide +kernel
theorem dX7_held_2 : decode cX7_held 2 = .ok (.putfield 1, 3) := by decide +kernel
theorem dX7_held_5 : decode cX7_held 5 = .ok (.iload_n 1, 1) := by decide +kernel
theorem dX7_held_6 : decode cX7_held 6 = .ok (.i2l, 1) := by decide +kernel
theorem dX7_held_7 : decode cX7_held 7 = .ok (.lconst 0, 1) := by decide +kernel
theorem dX7_held_8 : decode cX7_held 8 = .ok (.aload_n 0, 1) := by decide +kernel
theorem dX7_held_9 : decode cX7_held 9 = .ok (.getfield 46, 3) := by decide +kernel
theorem dX7_held_12 : decode cX7_held 12 = .ok (.iconst 0, 1) := by decide +kernel
theorem dX7_held_13 : decode cX7_held 13 = .ok (.iaload, 1) := by decide +kernel
theorem dX7_held_14 : decode cX7_held 14 = .ok (.iconst 2, 1) := by decide +kernel
theorem dX7_held_15 : decode cX7_held 15 = .ok (.isub, 1) := by decide +kernel
theorem dX7_held_16 : decode cX7_held 16 = .ok (.i2l, 1) := by decide +kernel
theorem dX7_held_17 : decode cX7_held 17 = .ok (.invokestatic 9, 3) := by decide +kernel
theorem dX7_held_20 : decode cX7_held 20 = .ok (.ifCond .eq 15, 3) := by decide +kernel
theorem dX7_held_23 : decode cX7_held 23 = .ok (.iload_n 2, 1) := by decide +kernel
theorem dX7_held_24 : decode cX7_held 24 = .ok (.i2l, 1) := by decide +kernel
theorem dX7_held_25 : decode cX7_held 25 = .ok (.lconst 0, 1) := by decide +kernel
theorem dX7_held_26 : decode cX7_held 26 = .ok (.ldc2_w 178, 3) := by decide +kernel
theorem dX7_held_29 : decode cX7_held 29 = .ok (.invokestatic 9, 3) := by decide +kernel
theorem dX7_held_32 : decode cX7_held 32 = .ok (.ifCond .ne 5, 3) := by decide +kernel
theorem dX7_held_35 : decode cX7_held 35 = .ok (.iconst (-1), 1) := by decide +kernel
theorem dX7_held_36 : decode cX7_held 36 = .ok (.ireturn, 1) := by decide +kernel
theorem dX7_held_37 : decode cX7_held 37 = .ok (.iconst 0, 1) := by decide +kernel
theorem dX7_held_38 : decode cX7_held 38 = .ok (.istore_n 3, 1) := by decide +kernel
theorem dX7_held_39 : decode cX7_held 39 = .ok (.iload_n 3, 1) := by decide +kernel
theorem dX7_held_40 : decode cX7_held 40 = .ok (.sipush 512, 3) := by decide +kernel
theorem dX7_held_43 : decode cX7_held 43 = .ok (.if_icmp .ge 16, 3) := by decide +kernel
theorem dX7_held_46 : decode cX7_held 46 = .ok (.aload_n 0, 1) := by decide +kernel
theorem dX7_held_47 : decode cX7_held 47 = .ok (.getfield 80, 3) := by decide +kernel
theorem dX7_held_50 : decode cX7_held 50 = .ok (.iload_n 3, 1) := by decide +kernel
theorem dX7_held_51 : decode cX7_held 51 = .ok (.iconst 0, 1) := by decide +kernel
theorem dX7_held_52 : decode cX7_held 52 = .ok (.bastore, 1) := by decide +kernel
theorem dX7_held_53 : decode cX7_held 53 = .ok (.iinc 3 1, 3) := by decide +kernel
theorem dX7_held_56 : decode cX7_held 56 = .ok (.goto (-17), 3) := by decide +kernel
theorem dX7_held_59 : decode cX7_held 59 = .ok (.aload_n 0, 1) := by decide +kernel
theorem dX7_held_60 : decode cX7_held 60 = .ok (.aload_n 0, 1) := by decide +kernel
theorem dX7_held_61 : decode cX7_held 61 = .ok (.getfield 46, 3) := by decide +kernel
theorem dX7_held_64 : decode cX7_held 64 = .ok (.invokevirtual 154, 3) := by decide +kernel
theorem dX7_held_67 : decode cX7_held 67 = .ok (.aload_n 0, 1) := by decide +kernel
theorem dX7_held_68 : decode cX7_held 68 = .ok (.invokevirtual 158, 3) := by decide +kernel
theorem dX7_held_71 : decode cX7_held 71 = .ok (.ifCond .eq 27, 3) := by decide +kernel
theorem dX7_held_74 : decode cX7_held 74 = .ok (.aload_n 0, 1) := by decide +kernel
theorem dX7_held_75 : decode cX7_held 75 = .ok (.getfield 80, 3) := by decide +kernel
theorem dX7_held_78 : decode cX7_held 78 = .ok (.aload_n 0, 1) := by decide +kernel
theorem dX7_held_79 : decode cX7_held 79 = .ok (.getfield 65, 3) := by decide +kernel
theorem dX7_held_82 : decode cX7_held 82 = .ok (.iload_n 1, 1) := by decide +kernel
theorem dX7_held_83 : decode cX7_held 83 = .ok (.iconst 1, 1) := by decide +kernel
theorem dX7_held_84 : decode cX7_held 84 = .ok (.iadd, 1) := by decide +kernel
theorem dX7_held_85 : decode cX7_held 85 = .ok (.iaload, 1) := by decide +kernel
theorem dX7_held_86 : decode cX7_held 86 = .ok (.aload_n 0, 1) := by decide +kernel
theorem dX7_held_87 : decode cX7_held 87 = .ok (.getfield 65, 3) := by decide +kernel
theorem dX7_held_90 : decode cX7_held 90 = .ok (.iload_n 1, 1) := by decide +kernel
theorem dX7_held_91 : decode cX7_held 91 = .ok (.iaload, 1) := by decide +kernel
theorem dX7_held_92 : decode cX7_held 92 = .ok (.isub, 1) := by decide +kernel
theorem dX7_held_93 : decode cX7_held 93 = .ok (.iconst 1, 1) := by decide +kernel
theorem dX7_held_94 : decode cX7_held 94 = .ok (.bastore, 1) := by decide +kernel
theorem dX7_held_95 : decode cX7_held 95 = .ok (.goto (-28), 3) := by decide +kernel
theorem dX7_held_98 : decode cX7_held 98 = .ok (.iconst 0, 1) := by decide +kernel
theorem dX7_held_99 : decode cX7_held 99 = .ok (.istore_n 3, 1) := by decide +kernel
theorem dX7_held_100 : decode cX7_held 100 = .ok (.bipush (-9), 2) := by decide +kernel
theorem dX7_held_102 : decode cX7_held 102 = .ok (.istore 4, 2) := by decide +kernel
theorem dX7_held_104 : decode cX7_held 104 = .ok (.bipush (-9), 2) := by decide +kernel
theorem dX7_held_106 : decode cX7_held 106 = .ok (.istore 5, 2) := by decide +kernel
theorem dX7_held_108 : decode cX7_held 108 = .ok (.iconst 0, 1) := by decide +kernel
theorem dX7_held_109 : decode cX7_held 109 = .ok (.istore 6, 2) := by decide +kernel
theorem dX7_held_111 : decode cX7_held 111 = .ok (.iload 6, 2) := by decide +kernel
theorem dX7_held_113 : decode cX7_held 113 = .ok (.sipush 512, 3) := by decide +kernel
theorem dX7_held_116 : decode cX7_held 116 = .ok (.if_icmp .ge 39, 3) := by decide +kernel
theorem dX7_held_119 : decode cX7_held 119 = .ok (.aload_n 0, 1) := by decide +kernel
theorem dX7_held_120 : decode cX7_held 120 = .ok (.getfield 80, 3) := by decide +kernel
theorem dX7_held_123 : decode cX7_held 123 = .ok (.iload 6, 2) := by decide +kernel
theorem dX7_held_125 : decode cX7_held 125 = .ok (.baload, 1) := by decide +kernel
theorem dX7_held_126 : decode cX7_held 126 = .ok (.ifCond .eq 23, 3) := by decide +kernel
theorem dX7_held_129 : decode cX7_held 129 = .ok (.iload_n 3, 1) := by decide +kernel
theorem dX7_held_130 : decode cX7_held 130 = .ok (.ifCond .ne 8, 3) := by decide +kernel
theorem dX7_held_133 : decode cX7_held 133 = .ok (.iload 6, 2) := by decide +kernel
theorem dX7_held_135 : decode cX7_held 135 = .ok (.goto 5, 3) := by decide +kernel
theorem dX7_held_138 : decode cX7_held 138 = .ok (.iload 4, 2) := by decide +kernel
theorem dX7_held_140 : decode cX7_held 140 = .ok (.istore 4, 2) := by decide +kernel
theorem dX7_held_142 : decode cX7_held 142 = .ok (.iload 6, 2) := by decide +kernel
theorem dX7_held_144 : decode cX7_held 144 = .ok (.istore 5, 2) := by decide +kernel
theorem dX7_held_146 : decode cX7_held 146 = .ok (.iinc 3 1, 3) := by decide +kernel
theorem dX7_held_149 : decode cX7_held 149 = .ok (.iinc 6 1, 3) := by decide +kernel
theorem dX7_held_152 : decode cX7_held 152 = .ok (.goto (-41), 3) := by decide +kernel
theorem dX7_held_155 : decode cX7_held 155 = .ok (.iload_n 2, 1) := by decide +kernel
theorem dX7_held_156 : decode cX7_held 156 = .ok (.ifCond .ne 7, 3) := by decide +kernel
theorem dX7_held_159 : decode cX7_held 159 = .ok (.iload_n 3, 1) := by decide +kernel
theorem dX7_held_160 : decode cX7_held 160 = .ok (.goto 15, 3) := by decide +kernel
theorem dX7_held_163 : decode cX7_held 163 = .ok (.iload_n 2, 1) := by decide +kernel
theorem dX7_held_164 : decode cX7_held 164 = .ok (.iconst 1, 1) := by decide +kernel
theorem dX7_held_165 : decode cX7_held 165 = .ok (.if_icmp .ne 8, 3) := by decide +kernel
theorem dX7_held_168 : decode cX7_held 168 = .ok (.iload 4, 2) := by decide +kernel
theorem dX7_held_170 : decode cX7_held 170 = .ok (.goto 5, 3) := by decide +kernel
theorem dX7_held_173 : decode cX7_held 173 = .ok (.iload 5, 2) := by decide +kernel
theorem dX7_held_175 : decode cX7_held 175 = .ok (.ireturn, 1) := by decide +kernel
set_option maxRecDepth 20000 in
theorem ggX7_bend_X7_isArrival : GoodIn wsX7_bend wsX7_isArrival := goodIn_r _ [9, 4, 10, 11, 8, 12, 51, 52, 53, 54, 55, 56, 57, 58, 59, 60, 61, 62, 63, 64, 65, 66, 67, 68, 69, 70, 71, 72, 73] (by decide +kernel) (by decide +kernel)
set_option maxRecDepth 20000 in
theorem gX7_bend_X7_isArrival : GoodIn wsX7_bend (wsV RX7 119 RX7 yX7_isArrival wsX7_isArrival) := goodIn_app (goodIn_of _ (by decide +kernel)) ggX7_bend_X7_isArrival
set_option maxRecDepth 20000 in
theorem ggX7_bend_X7_in : GoodIn wsX7_bend wsX7_in := goodIn_r _ [12] (by decide +kernel) (by decide +kernel)
set_option maxRecDepth 20000 in
theorem gX7_bend_X7_in : GoodIn wsX7_bend (va_wsS RX7 9 yX7_in wsX7_in) := goodIn_app (goodIn_of _ (by decide +kernel)) ggX7_bend_X7_in
set_option maxRecDepth 20000 in
theorem ggX7_bend_X7_isNumbered : GoodIn wsX7_bend wsX7_isNumbered := goodIn_r _ [16, 4, 17, 18, 19, 8, 20, 21, 22, 3, 23, 24, 25, 26, 27, 28, 29, 30, 31, 32, 33, 34, 35, 36, 37, 38, 39, 40, 41, 42, 43, 44, 51, 52, 53, 54, 55, 56, 57, 58, 59, 60, 61, 62, 63, 64, 65, 66, 67, 68, 69, 70, 71, 72, 73] (by decide +kernel) (by decide +kernel)
set_option maxRecDepth 20000 in
theorem gX7_bend_X7_isNumbered : GoodIn wsX7_bend (wsV RX7 161 RX7 yX7_isNumbered wsX7_isNumbered) := goodIn_app (goodIn_of _ (by decide +kernel)) ggX7_bend_X7_isNumbered
set_option maxRecDepth 20000 in
theorem ggX7_bend_X7_apart : GoodIn wsX7_bend wsX7_apart := goodIn_r _ [40] (by decide +kernel) (by decide +kernel)
set_option maxRecDepth 20000 in
theorem gX7_bend_X7_apart : GoodIn wsX7_bend (va_wsS RX7 144 yX7_apart wsX7_apart) := goodIn_app (goodIn_of _ (by decide +kernel)) ggX7_bend_X7_apart
set_option maxRecDepth 20000 in
theorem ggX7_bend_X7_least : GoodIn wsX7_bend wsX7_least := goodIn_r _ [47, 48, 49, 8, 50] (by decide +kernel) (by decide +kernel)
set_option maxRecDepth 20000 in
theorem gX7_bend_X7_least : GoodIn wsX7_bend (va_wsS RX7 168 yX7_least wsX7_least) := goodIn_app (goodIn_of _ (by decide +kernel)) ggX7_bend_X7_least
theorem dX7_bend_0 : decode cX7_bend 0 = .ok (.aload_n 0, 1) := by decide +kernel
theorem dX7_bend_1 : decode cX7_bend 1 = .ok (.iconst 0, 1) := by decide +kernel
theorem dX7_bend_2 : decode cX7_bend 2 = .ok (.putfield 1, 3) := by decide +kernel
theorem dX7_bend_5 : decode cX7_bend 5 = .ok (.aload_n 0, 1) := by decide +kernel
theorem dX7_bend_6 : decode cX7_bend 6 = .ok (.iload_n 1, 1) := by decide +kernel
theorem dX7_bend_7 : decode cX7_bend 7 = .ok (.invokevirtual 119, 3) := by decide +kernel
theorem dX7_bend_10 : decode cX7_bend 10 = .ok (.ifCond .eq 40, 3) := by decide +kernel
theorem dX7_bend_13 : decode cX7_bend 13 = .ok (.aload_n 0, 1) := by decide +kernel
theorem dX7_bend_14 : decode cX7_bend 14 = .ok (.iload_n 3, 1) := by decide +kernel
theorem dX7_bend_15 : decode cX7_bend 15 = .ok (.invokevirtual 119, 3) := by decide +kernel
theorem dX7_bend_18 : decode cX7_bend 18 = .ok (.ifCond .eq 32, 3) := by decide +kernel
theorem dX7_bend_21 : decode cX7_bend 21 = .ok (.iload_n 1, 1) := by decide +kernel
theorem dX7_bend_22 : decode cX7_bend 22 = .ok (.iload_n 2, 1) := by decide +kernel
theorem dX7_bend_23 : decode cX7_bend 23 = .ok (.if_icmp .ge 27, 3) := by decide +kernel
theorem dX7_bend_26 : decode cX7_bend 26 = .ok (.iload_n 2, 1) := by decide +kernel
theorem dX7_bend_27 : decode cX7_bend 27 = .ok (.iload_n 3, 1) := by decide +kernel
theorem dX7_bend_28 : decode cX7_bend 28 = .ok (.if_icmp .ge 22, 3) := by decide +kernel
theorem dX7_bend_31 : decode cX7_bend 31 = .ok (.iload 4, 2) := by decide +kernel
theorem dX7_bend_33 : decode cX7_bend 33 = .ok (.i2l, 1) := by decide +kernel
theorem dX7_bend_34 : decode cX7_bend 34 = .ok (.lconst 0, 1) := by decide +kernel
theorem dX7_bend_35 : decode cX7_bend 35 = .ok (.lconst 1, 1) := by decide +kernel
theorem dX7_bend_36 : decode cX7_bend 36 = .ok (.invokestatic 9, 3) := by decide +kernel
theorem dX7_bend_39 : decode cX7_bend 39 = .ok (.ifCond .eq 11, 3) := by decide +kernel
theorem dX7_bend_42 : decode cX7_bend 42 = .ok (.aload_n 0, 1) := by decide +kernel
theorem dX7_bend_43 : decode cX7_bend 43 = .ok (.iconst 0, 1) := by decide +kernel
theorem dX7_bend_44 : decode cX7_bend 44 = .ok (.invokevirtual 161, 3) := by decide +kernel
theorem dX7_bend_47 : decode cX7_bend 47 = .ok (.ifCond .ne 6, 3) := by decide +kernel
theorem dX7_bend_50 : decode cX7_bend 50 = .ok (.ldc 180, 2) := by decide +kernel
theorem dX7_bend_52 : decode cX7_bend 52 = .ok (.ireturn, 1) := by decide +kernel
theorem dX7_bend_53 : decode cX7_bend 53 = .ok (.aload_n 0, 1) := by decide +kernel
theorem dX7_bend_54 : decode cX7_bend 54 = .ok (.getfield 65, 3) := by decide +kernel
theorem dX7_bend_57 : decode cX7_bend 57 = .ok (.iload_n 2, 1) := by decide +kernel
theorem dX7_bend_58 : decode cX7_bend 58 = .ok (.iaload, 1) := by decide +kernel
theorem dX7_bend_59 : decode cX7_bend 59 = .ok (.aload_n 0, 1) := by decide +kernel
theorem dX7_bend_60 : decode cX7_bend 60 = .ok (.getfield 65, 3) := by decide +kernel
theorem dX7_bend_63 : decode cX7_bend 63 = .ok (.iload_n 1, 1) := by decide +kernel
theorem dX7_bend_64 : decode cX7_bend 64 = .ok (.iaload, 1) := by decide +kernel
theorem dX7_bend_65 : decode cX7_bend 65 = .ok (.isub, 1) := by decide +kernel
theorem dX7_bend_66 : decode cX7_bend 66 = .ok (.istore 5, 2) := by decide +kernel
theorem dX7_bend_68 : decode cX7_bend 68 = .ok (.aload_n 0, 1) := by decide +kernel
theorem dX7_bend_69 : decode cX7_bend 69 = .ok (.getfield 65, 3) := by decide +kernel
theorem dX7_bend_72 : decode cX7_bend 72 = .ok (.iload_n 3, 1) := by decide +kernel
theorem dX7_bend_73 : decode cX7_bend 73 = .ok (.iaload, 1) := by decide +kernel
theorem dX7_bend_74 : decode cX7_bend 74 = .ok (.aload_n 0, 1) := by decide +kernel
theorem dX7_bend_75 : decode cX7_bend 75 = .ok (.getfield 65, 3) := by decide +kernel
theorem dX7_bend_78 : decode cX7_bend 78 = .ok (.iload_n 2, 1) := by decide +kernel
theorem dX7_bend_79 : decode cX7_bend 79 = .ok (.iaload, 1) := by decide +kernel
theorem dX7_bend_80 : decode cX7_bend 80 = .ok (.isub, 1) := by decide +kernel
theorem dX7_bend_81 : decode cX7_bend 81 = .ok (.istore 6, 2) := by decide +kernel
theorem dX7_bend_83 : decode cX7_bend 83 = .ok (.aload_n 0, 1) := by decide +kernel
theorem dX7_bend_84 : decode cX7_bend 84 = .ok (.getfield 46, 3) := by decide +kernel
theorem dX7_bend_87 : decode cX7_bend 87 = .ok (.iload_n 2, 1) := by decide +kernel
theorem dX7_bend_88 : decode cX7_bend 88 = .ok (.iload_n 3, 1) := by decide +kernel
theorem dX7_bend_89 : decode cX7_bend 89 = .ok (.invokestatic 144, 3) := by decide +kernel
theorem dX7_bend_92 : decode cX7_bend 92 = .ok (.iload 5, 2) := by decide +kernel
theorem dX7_bend_94 : decode cX7_bend 94 = .ok (.imul, 1) := by decide +kernel
theorem dX7_bend_95 : decode cX7_bend 95 = .ok (.aload_n 0, 1) := by decide +kernel
theorem dX7_bend_96 : decode cX7_bend 96 = .ok (.getfield 46, 3) := by decide +kernel
theorem dX7_bend_99 : decode cX7_bend 99 = .ok (.iload_n 1, 1) := by decide +kernel
theorem dX7_bend_100 : decode cX7_bend 100 = .ok (.iload_n 2, 1) := by decide +kernel
theorem dX7_bend_101 : decode cX7_bend 101 = .ok (.invokestatic 144, 3) := by decide +kernel
theorem dX7_bend_104 : decode cX7_bend 104 = .ok (.iload 6, 2) := by decide +kernel
theorem dX7_bend_106 : decode cX7_bend 106 = .ok (.imul, 1) := by decide +kernel
theorem dX7_bend_107 : decode cX7_bend 107 = .ok (.isub, 1) := by decide +kernel
theorem dX7_bend_108 : decode cX7_bend 108 = .ok (.istore 7, 2) := by decide +kernel
theorem dX7_bend_110 : decode cX7_bend 110 = .ok (.iload 7, 2) := by decide +kernel
theorem dX7_bend_112 : decode cX7_bend 112 = .ok (.iload 5, 2) := by decide +kernel
theorem dX7_bend_114 : decode cX7_bend 114 = .ok (.iload 6, 2) := by decide +kernel
theorem dX7_bend_116 : decode cX7_bend 116 = .ok (.imul, 1) := by decide +kernel
theorem dX7_bend_117 : decode cX7_bend 117 = .ok (.iload 4, 2) := by decide +kernel
theorem dX7_bend_119 : decode cX7_bend 119 = .ok (.ifCond .ne 7, 3) := by decide +kernel
theorem dX7_bend_122 : decode cX7_bend 122 = .ok (.iconst 1, 1) := by decide +kernel
theorem dX7_bend_123 : decode cX7_bend 123 = .ok (.goto 4, 3) := by decide +kernel
theorem dX7_bend_126 : decode cX7_bend 126 = .ok (.iconst 0, 1) := by decide +kernel
theorem dX7_bend_127 : decode cX7_bend 127 = .ok (.invokestatic 168, 3) := by decide +kernel
theorem dX7_bend_130 : decode cX7_bend 130 = .ok (.ireturn, 1) := by decide +kernel
set_option maxRecDepth 20000 in
theorem ggX7_left_X7_in : GoodIn wsX7_left wsX7_in := goodIn_r _ [7] (by decide +kernel) (by decide +kernel)
set_option maxRecDepth 20000 in
theorem gX7_left_X7_in : GoodIn wsX7_left (va_wsS RX7 9 yX7_in wsX7_in) := goodIn_app (goodIn_of _ (by decide +kernel)) ggX7_left_X7_in
set_option maxRecDepth 20000 in
theorem ggX7_left_X7_placeOf : GoodIn wsX7_left wsX7_placeOf := goodIn_r _ [10] (by decide +kernel) (by decide +kernel)
set_option maxRecDepth 20000 in
theorem gX7_left_X7_placeOf : GoodIn wsX7_left (va_wsS RX7 86 yX7_placeOf wsX7_placeOf) := goodIn_app (goodIn_of _ (by decide +kernel)) ggX7_left_X7_placeOf
set_option maxRecDepth 20000 in
theorem ggX7_left_X7_leftBy : GoodIn wsX7_left wsX7_leftBy := goodIn_r _ [14, 3, 15, 16, 17, 6, 18, 19, 20, 21, 8, 9, 10, 22, 23, 24, 25, 26, 27, 28, 29, 30, 31, 32, 33, 34, 35, 36, 37, 38, 39, 40, 41, 42, 43, 44, 45, 46, 47, 48, 49, 50, 51, 52, 53, 54, 55, 56, 57, 58, 59, 60, 61, 62, 63, 64, 65, 66, 67, 68, 69, 70, 71, 72, 73, 74] (by decide +kernel) (by decide +kernel)
set_option maxRecDepth 20000 in
theorem gX7_left_X7_leftBy : GoodIn wsX7_left (wsV RX7 181 RX7 yX7_leftBy wsX7_leftBy) := goodIn_app (goodIn_of _ (by decide +kernel)) ggX7_left_X7_leftBy
theorem dX7_left_0 : decode cX7_left 0 = .ok (.aload_n 0, 1) := by decide +kernel
theorem dX7_left_1 : decode cX7_left 1 = .ok (.iconst 0, 1) := by decide +kernel
theorem dX7_left_2 : decode cX7_left 2 = .ok (.putfield 1, 3) := by decide +kernel
theorem dX7_left_5 : decode cX7_left 5 = .ok (.iload_n 1, 1) := by decide +kernel
theorem dX7_left_6 : decode cX7_left 6 = .ok (.i2l, 1) := by decide +kernel
theorem dX7_left_7 : decode cX7_left 7 = .ok (.lconst 0, 1) := by decide +kernel
theorem dX7_left_8 : decode cX7_left 8 = .ok (.ldc2_w 123, 3) := by decide +kernel
theorem dX7_left_11 : decode cX7_left 11 = .ok (.invokestatic 9, 3) := by decide +kernel
theorem dX7_left_14 : decode cX7_left 14 = .ok (.ifCond .ne 5, 3) := by decide +kernel
theorem dX7_left_17 : decode cX7_left 17 = .ok (.iconst (-1), 1) := by decide +kernel
theorem dX7_left_18 : decode cX7_left 18 = .ok (.ireturn, 1) := by decide +kernel
theorem dX7_left_19 : decode cX7_left 19 = .ok (.aload_n 0, 1) := by decide +kernel
theorem dX7_left_20 : decode cX7_left 20 = .ok (.getfield 46, 3) := by decide +kernel
theorem dX7_left_23 : decode cX7_left 23 = .ok (.iload_n 1, 1) := by decide +kernel
theorem dX7_left_24 : decode cX7_left 24 = .ok (.invokestatic 86, 3) := by decide +kernel
theorem dX7_left_27 : decode cX7_left 27 = .ok (.ifCond .lt 6, 3) := by decide +kernel
theorem dX7_left_30 : decode cX7_left 30 = .ok (.bipush (-2), 2) := by decide +kernel
theorem dX7_left_32 : decode cX7_left 32 = .ok (.ireturn, 1) := by decide +kernel
theorem dX7_left_33 : decode cX7_left 33 = .ok (.aload_n 0, 1) := by decide +kernel
theorem dX7_left_34 : decode cX7_left 34 = .ok (.getfield 46, 3) := by decide +kernel
theorem dX7_left_37 : decode cX7_left 37 = .ok (.iconst 0, 1) := by decide +kernel
theorem dX7_left_38 : decode cX7_left 38 = .ok (.iaload, 1) := by decide +kernel
theorem dX7_left_39 : decode cX7_left 39 = .ok (.bipush 7, 2) := by decide +kernel
theorem dX7_left_41 : decode cX7_left 41 = .ok (.if_icmp .ne 6, 3) := by decide +kernel
theorem dX7_left_44 : decode cX7_left 44 = .ok (.bipush (-3), 2) := by decide +kernel
theorem dX7_left_46 : decode cX7_left 46 = .ok (.ireturn, 1) := by decide +kernel
theorem dX7_left_47 : decode cX7_left 47 = .ok (.aload_n 0, 1) := by decide +kernel
theorem dX7_left_48 : decode cX7_left 48 = .ok (.iload_n 1, 1) := by decide +kernel
theorem dX7_left_49 : decode cX7_left 49 = .ok (.invokevirtual 181, 3) := by decide +kernel
theorem dX7_left_52 : decode cX7_left 52 = .ok (.ireturn, 1) := by decide +kernel
set_option maxRecDepth 20000 in
theorem ggX7_leftBy_X7_copyAll : GoodIn wsX7_leftBy wsX7_copyAll := goodIn_r _ [6] (by decide +kernel) (by decide +kernel)
set_option maxRecDepth 20000 in
theorem gX7_leftBy_X7_copyAll : GoodIn wsX7_leftBy (va_wsS RX7 112 yX7_copyAll wsX7_copyAll) := goodIn_app (goodIn_of _ (by decide +kernel)) ggX7_leftBy_X7_copyAll
set_option maxRecDepth 20000 in
theorem ggX7_leftBy_X7_put : GoodIn wsX7_leftBy wsX7_put := goodIn_r _ [9, 10, 11, 5, 12] (by decide +kernel) (by decide +kernel)
set_option maxRecDepth 20000 in
theorem gX7_leftBy_X7_put : GoodIn wsX7_leftBy (va_wsS RX7 97 yX7_put wsX7_put) := goodIn_app (goodIn_of _ (by decide +kernel)) ggX7_leftBy_X7_put
set_option maxRecDepth 20000 in
theorem ggX7_leftBy_X7_standing : GoodIn wsX7_leftBy wsX7_standing := goodIn_r _ [16, 17, 18, 19, 5, 20, 21, 22, 23, 24, 25, 26, 27, 3, 4, 6, 28, 29, 30, 31, 32, 33, 34, 35, 36, 37, 38, 39, 40, 41, 42, 43, 44, 45, 46, 47, 48, 49, 50, 51, 52, 53, 54, 55, 56, 57, 58, 59, 60, 61, 62, 63, 64, 65] (by decide +kernel) (by decide +kernel)
set_option maxRecDepth 20000 in
theorem gX7_leftBy_X7_standing : GoodIn wsX7_leftBy (wsV RX7 137 RX7 yX7_standing wsX7_standing) := goodIn_app (goodIn_of _ (by decide +kernel)) ggX7_leftBy_X7_standing
theorem dX7_leftBy_0 : decode cX7_leftBy 0 = .ok (.aload_n 0, 1) := by decide +kernel
theorem dX7_leftBy_1 : decode cX7_leftBy 1 = .ok (.getfield 46, 3) := by decide +kernel
theorem dX7_leftBy_4 : decode cX7_leftBy 4 = .ok (.aload_n 0, 1) := by decide +kernel
theorem dX7_leftBy_5 : decode cX7_leftBy 5 = .ok (.getfield 49, 3) := by decide +kernel
theorem dX7_leftBy_8 : decode cX7_leftBy 8 = .ok (.invokestatic 112, 3) := by decide +kernel
theorem dX7_leftBy_11 : decode cX7_leftBy 11 = .ok (.aload_n 0, 1) := by decide +kernel
theorem dX7_leftBy_12 : decode cX7_leftBy 12 = .ok (.getfield 49, 3) := by decide +kernel
theorem dX7_leftBy_15 : decode cX7_leftBy 15 = .ok (.iload_n 1, 1) := by decide +kernel
theorem dX7_leftBy_16 : decode cX7_leftBy 16 = .ok (.invokestatic 97, 3) := by decide +kernel
theorem dX7_leftBy_19 : decode cX7_leftBy 19 = .ok (.aload_n 0, 1) := by decide +kernel
theorem dX7_leftBy_20 : decode cX7_leftBy 20 = .ok (.aload_n 0, 1) := by decide +kernel
theorem dX7_leftBy_21 : decode cX7_leftBy 21 = .ok (.getfield 49, 3) := by decide +kernel
theorem dX7_leftBy_24 : decode cX7_leftBy 24 = .ok (.invokevirtual 137, 3) := by decide +kernel
theorem dX7_leftBy_27 : decode cX7_leftBy 27 = .ok (.ireturn, 1) := by decide +kernel
set_option maxRecDepth 20000 in
theorem ggX7_listen_X7_leftBy : GoodIn wsX7_listen wsX7_leftBy := goodIn_r _ [7, 2, 8, 9, 10, 6, 11, 12, 13, 14, 15, 16, 17, 18, 19, 20, 21, 22, 23, 24, 25, 26, 27, 28, 29, 30, 31, 32, 33, 34, 35, 36, 37, 38, 39, 40, 41, 42, 43, 44, 45, 46, 47, 48, 49, 50, 51, 52, 53, 54, 55, 56, 57, 58, 59, 60, 61, 62, 63, 64, 65, 66, 67, 68, 69, 70] (by decide +kernel) (by decide +kernel)
set_option maxRecDepth 20000 in
theorem gX7_listen_X7_leftBy : GoodIn wsX7_listen (wsV RX7 181 RX7 yX7_leftBy wsX7_leftBy) := goodIn_app (goodIn_of _ (by decide +kernel)) ggX7_listen_X7_leftBy
theorem dX7_listen_0 : decode cX7_listen 0 = .ok (.aload_n 0, 1) := by decide +kernel
theorem dX7_listen_1 : decode cX7_listen 1 = .ok (.iconst 0, 1) := by decide +kernel
theorem dX7_listen_2 : decode cX7_listen 2 = .ok (.putfield 1, 3) := by decide +kernel
theorem dX7_listen_5 : decode cX7_listen 5 = .ok (.aload_n 0, 1) := by decide +kernel
theorem dX7_listen_6 : decode cX7_listen 6 = .ok (.getfield 46, 3) := by decide +kernel
theorem dX7_listen_9 : decode cX7_listen 9 = .ok (.iconst 0, 1) := by decide +kernel
theorem dX7_listen_10 : decode cX7_listen 10 = .ok (.iaload, 1) := by decide +kernel
theorem dX7_listen_11 : decode cX7_listen 11 = .ok (.bipush 7, 2) := by decide +kernel
theorem dX7_listen_13 : decode cX7_listen 13 = .ok (.if_icmp .ne 6, 3) := by decide +kernel
theorem dX7_listen_16 : decode cX7_listen 16 = .ok (.bipush (-3), 2) := by decide +kernel
theorem dX7_listen_18 : decode cX7_listen 18 = .ok (.ireturn, 1) := by decide +kernel
theorem dX7_listen_19 : decode cX7_listen 19 = .ok (.bipush (-9), 2) := by decide +kernel
theorem dX7_listen_21 : decode cX7_listen 21 = .ok (.istore_n 1, 1) := by decide +kernel
theorem dX7_listen_22 : decode cX7_listen 22 = .ok (.iconst 0, 1) := by decide +kernel
theorem dX7_listen_23 : decode cX7_listen 23 = .ok (.istore_n 2, 1) := by decide +kernel
theorem dX7_listen_24 : decode cX7_listen 24 = .ok (.aload_n 0, 1) := by decide +kernel
theorem dX7_listen_25 : decode cX7_listen 25 = .ok (.getfield 46, 3) := by decide +kernel
theorem dX7_listen_28 : decode cX7_listen 28 = .ok (.iconst 0, 1) := by decide +kernel
theorem dX7_listen_29 : decode cX7_listen 29 = .ok (.iaload, 1) := by decide +kernel
theorem dX7_listen_30 : decode cX7_listen 30 = .ok (.ifCond .ne 9, 3) := by decide +kernel
theorem dX7_listen_33 : decode cX7_listen 33 = .ok (.sipush 2999, 3) := by decide +kernel
theorem dX7_listen_36 : decode cX7_listen 36 = .ok (.goto 18, 3) := by decide +kernel
theorem dX7_listen_39 : decode cX7_listen 39 = .ok (.aload_n 0, 1) := by decide +kernel
theorem dX7_listen_40 : decode cX7_listen 40 = .ok (.getfield 46, 3) := by decide +kernel
theorem dX7_listen_43 : decode cX7_listen 43 = .ok (.iconst 4, 1) := by decide +kernel
theorem dX7_listen_44 : decode cX7_listen 44 = .ok (.aload_n 0, 1) := by decide +kernel
theorem dX7_listen_45 : decode cX7_listen 45 = .ok (.getfield 46, 3) := by decide +kernel
theorem dX7_listen_48 : decode cX7_listen 48 = .ok (.iconst 0, 1) := by decide +kernel
theorem dX7_listen_49 : decode cX7_listen 49 = .ok (.iaload, 1) := by decide +kernel
theorem dX7_listen_50 : decode cX7_listen 50 = .ok (.iadd, 1) := by decide +kernel
theorem dX7_listen_51 : decode cX7_listen 51 = .ok (.iconst 1, 1) := by decide +kernel
theorem dX7_listen_52 : decode cX7_listen 52 = .ok (.isub, 1) := by decide +kernel
theorem dX7_listen_53 : decode cX7_listen 53 = .ok (.iaload, 1) := by decide +kernel
theorem dX7_listen_54 : decode cX7_listen 54 = .ok (.istore_n 3, 1) := by decide +kernel
theorem dX7_listen_55 : decode cX7_listen 55 = .ok (.iload_n 3, 1) := by decide +kernel
theorem dX7_listen_56 : decode cX7_listen 56 = .ok (.iconst 1, 1) := by decide +kernel
theorem dX7_listen_57 : decode cX7_listen 57 = .ok (.iadd, 1) := by decide +kernel
theorem dX7_listen_58 : decode cX7_listen 58 = .ok (.istore 4, 2) := by decide +kernel
theorem dX7_listen_60 : decode cX7_listen 60 = .ok (.iload 4, 2) := by decide +kernel
theorem dX7_listen_62 : decode cX7_listen 62 = .ok (.iload_n 3, 1) := by decide +kernel
theorem dX7_listen_63 : decode cX7_listen 63 = .ok (.bipush 100, 2) := by decide +kernel
theorem dX7_listen_65 : decode cX7_listen 65 = .ok (.iadd, 1) := by decide +kernel
theorem dX7_listen_66 : decode cX7_listen 66 = .ok (.if_icmp .gt 48, 3) := by decide +kernel
theorem dX7_listen_69 : decode cX7_listen 69 = .ok (.iload 4, 2) := by decide +kernel
theorem dX7_listen_71 : decode cX7_listen 71 = .ok (.sipush 2999, 3) := by decide +kernel
theorem dX7_listen_74 : decode cX7_listen 74 = .ok (.if_icmp .gt 40, 3) := by decide +kernel
theorem dX7_listen_77 : decode cX7_listen 77 = .ok (.aload_n 0, 1) := by decide +kernel
theorem dX7_listen_78 : decode cX7_listen 78 = .ok (.iload 4, 2) := by decide +kernel
theorem dX7_listen_80 : decode cX7_listen 80 = .ok (.invokevirtual 181, 3) := by decide +kernel
theorem dX7_listen_83 : decode cX7_listen 83 = .ok (.istore 5, 2) := by decide +kernel
theorem dX7_listen_85 : decode cX7_listen 85 = .ok (.iload 5, 2) := by decide +kernel
theorem dX7_listen_87 : decode cX7_listen 87 = .ok (.ifCond .le 21, 3) := by decide +kernel
theorem dX7_listen_90 : decode cX7_listen 90 = .ok (.iload_n 1, 1) := by decide +kernel
theorem dX7_listen_91 : decode cX7_listen 91 = .ok (.bipush (-9), 2) := by decide +kernel
theorem dX7_listen_93 : decode cX7_listen 93 = .ok (.if_icmp .eq 9, 3) := by decide +kernel
theorem dX7_listen_96 : decode cX7_listen 96 = .ok (.iload 5, 2) := by decide +kernel
theorem dX7_listen_98 : decode cX7_listen 98 = .ok (.iload_n 2, 1) := by decide +kernel
theorem dX7_listen_99 : decode cX7_listen 99 = .ok (.if_icmp .ge 9, 3) := by decide +kernel
theorem dX7_listen_102 : decode cX7_listen 102 = .ok (.iload 4, 2) := by decide +kernel
theorem dX7_listen_104 : decode cX7_listen 104 = .ok (.istore_n 1, 1) := by decide +kernel
theorem dX7_listen_105 : decode cX7_listen 105 = .ok (.iload 5, 2) := by decide +kernel
theorem dX7_listen_107 : decode cX7_listen 107 = .ok (.istore_n 2, 1) := by decide +kernel
theorem dX7_listen_108 : decode cX7_listen 108 = .ok (.iinc 4 1, 3) := by decide +kernel
theorem dX7_listen_111 : decode cX7_listen 111 = .ok (.goto (-51), 3) := by decide +kernel
theorem dX7_listen_114 : decode cX7_listen 114 = .ok (.iload_n 1, 1) := by decide +kernel
theorem dX7_listen_115 : decode cX7_listen 115 = .ok (.ireturn, 1) := by decide +kernel
set_option maxRecDepth 20000 in
theorem ggX7_odds_X7_in : GoodIn wsX7_odds wsX7_in := goodIn_r _ [8] (by decide +kernel) (by decide +kernel)
set_option maxRecDepth 20000 in
theorem gX7_odds_X7_in : GoodIn wsX7_odds (va_wsS RX7 9 yX7_in wsX7_in) := goodIn_app (goodIn_of _ (by decide +kernel)) ggX7_odds_X7_in
set_option maxRecDepth 20000 in
theorem ggX7_odds_X7_copyAll : GoodIn wsX7_odds wsX7_copyAll := goodIn_r _ [11] (by decide +kernel) (by decide +kernel)
set_option maxRecDepth 20000 in
theorem gX7_odds_X7_copyAll : GoodIn wsX7_odds (va_wsS RX7 112 yX7_copyAll wsX7_copyAll) := goodIn_app (goodIn_of _ (by decide +kernel)) ggX7_odds_X7_copyAll
set_option maxRecDepth 20000 in
theorem ggX7_odds_X7_drop : GoodIn wsX7_odds wsX7_drop := goodIn_r _ [14] (by decide +kernel) (by decide +kernel)
set_option maxRecDepth 20000 in
theorem gX7_odds_X7_drop : GoodIn wsX7_odds (va_wsS RX7 128 yX7_drop wsX7_drop) := goodIn_app (goodIn_of _ (by decide +kernel)) ggX7_odds_X7_drop
set_option maxRecDepth 20000 in
theorem ggX7_odds_X7_standing : GoodIn wsX7_odds wsX7_standing := goodIn_r _ [18, 19, 20, 21, 7, 22, 23, 24, 25, 26, 27, 28, 29, 9, 10, 11, 30, 31, 32, 33, 34, 35, 36, 37, 38, 39, 40, 41, 42, 43, 44, 51, 52, 53, 54, 55, 56, 57, 58, 59, 60, 61, 62, 63, 64, 65, 66, 67, 68, 69, 70, 71, 72, 73] (by decide +kernel) (by decide +kernel)
set_option maxRecDepth 20000 in
theorem gX7_odds_X7_standing : GoodIn wsX7_odds (wsV RX7 137 RX7 yX7_standing wsX7_standing) := goodIn_app (goodIn_of _ (by decide +kernel)) ggX7_odds_X7_standing
set_option maxRecDepth 20000 in
theorem ggX7_odds_X7_least : GoodIn wsX7_odds wsX7_least := goodIn_r _ [47, 48, 49, 7, 50] (by decide +kernel) (by decide +kernel)
set_option maxRecDepth 20000 in
theorem gX7_odds_X7_least : GoodIn wsX7_odds (va_wsS RX7 168 yX7_least wsX7_least) := goodIn_app (goodIn_of _ (by decide +kernel)) ggX7_odds_X7_least
theorem dX7_odds_0 : decode cX7_odds 0 = .ok (.aload_n 0, 1) := by decide +kernel
theorem dX7_odds_1 : decode cX7_odds 1 = .ok (.iconst 0, 1) := by decide +kernel
theorem dX7_odds_2 : decode cX7_odds 2 = .ok (.putfield 1, 3) := by decide +kernel
theorem dX7_odds_5 : decode cX7_odds 5 = .ok (.iload_n 1, 1) := by decide +kernel
theorem dX7_odds_6 : decode cX7_odds 6 = .ok (.i2l, 1) := by decide +kernel
theorem dX7_odds_7 : decode cX7_odds 7 = .ok (.lconst 0, 1) := by decide +kernel
theorem dX7_odds_8 : decode cX7_odds 8 = .ok (.ldc2_w 131, 3) := by decide +kernel
theorem dX7_odds_11 : decode cX7_odds 11 = .ok (.invokestatic 9, 3) := by decide +kernel
theorem dX7_odds_14 : decode cX7_odds 14 = .ok (.ifCond .eq 13, 3) := by decide +kernel
theorem dX7_odds_17 : decode cX7_odds 17 = .ok (.iload_n 2, 1) := by decide +kernel
theorem dX7_odds_18 : decode cX7_odds 18 = .ok (.i2l, 1) := by decide +kernel
theorem dX7_odds_19 : decode cX7_odds 19 = .ok (.lconst 0, 1) := by decide +kernel
theorem dX7_odds_20 : decode cX7_odds 20 = .ok (.lconst 1, 1) := by decide +kernel
theorem dX7_odds_21 : decode cX7_odds 21 = .ok (.invokestatic 9, 3) := by decide +kernel
theorem dX7_odds_24 : decode cX7_odds 24 = .ok (.ifCond .ne 5, 3) := by decide +kernel
theorem dX7_odds_27 : decode cX7_odds 27 = .ok (.iconst (-1), 1) := by decide +kernel
theorem dX7_odds_28 : decode cX7_odds 28 = .ok (.ireturn, 1) := by decide +kernel
theorem dX7_odds_29 : decode cX7_odds 29 = .ok (.iconst 0, 1) := by decide +kernel
theorem dX7_odds_30 : decode cX7_odds 30 = .ok (.istore_n 3, 1) := by decide +kernel
theorem dX7_odds_31 : decode cX7_odds 31 = .ok (.iconst 0, 1) := by decide +kernel
theorem dX7_odds_32 : decode cX7_odds 32 = .ok (.istore 4, 2) := by decide +kernel
theorem dX7_odds_34 : decode cX7_odds 34 = .ok (.iconst 0, 1) := by decide +kernel
theorem dX7_odds_35 : decode cX7_odds 35 = .ok (.istore 5, 2) := by decide +kernel
theorem dX7_odds_37 : decode cX7_odds 37 = .ok (.iload 5, 2) := by decide +kernel
theorem dX7_odds_39 : decode cX7_odds 39 = .ok (.iconst 1, 1) := by decide +kernel
theorem dX7_odds_40 : decode cX7_odds 40 = .ok (.aload_n 0, 1) := by decide +kernel
theorem dX7_odds_41 : decode cX7_odds 41 = .ok (.getfield 46, 3) := by decide +kernel
theorem dX7_odds_44 : decode cX7_odds 44 = .ok (.iconst 0, 1) := by decide +kernel
theorem dX7_odds_45 : decode cX7_odds 45 = .ok (.iaload, 1) := by decide +kernel
theorem dX7_odds_46 : decode cX7_odds 46 = .ok (.ishl, 1) := by decide +kernel
theorem dX7_odds_47 : decode cX7_odds 47 = .ok (.if_icmp .ge 127, 3) := by decide +kernel
theorem dX7_odds_50 : decode cX7_odds 50 = .ok (.iconst 1, 1) := by decide +kernel
theorem dX7_odds_51 : decode cX7_odds 51 = .ok (.istore 6, 2) := by decide +kernel
theorem dX7_odds_53 : decode cX7_odds 53 = .ok (.aload_n 0, 1) := by decide +kernel
theorem dX7_odds_54 : decode cX7_odds 54 = .ok (.getfield 46, 3) := by decide +kernel
theorem dX7_odds_57 : decode cX7_odds 57 = .ok (.aload_n 0, 1) := by decide +kernel
theorem dX7_odds_58 : decode cX7_odds 58 = .ok (.getfield 49, 3) := by decide +kernel
theorem dX7_odds_61 : decode cX7_odds 61 = .ok (.invokestatic 112, 3) := by decide +kernel
theorem dX7_odds_64 : decode cX7_odds 64 = .ok (.aload_n 0, 1) := by decide +kernel
theorem dX7_odds_65 : decode cX7_odds 65 = .ok (.getfield 46, 3) := by decide +kernel
theorem dX7_odds_68 : decode cX7_odds 68 = .ok (.iconst 0, 1) := by decide +kernel
theorem dX7_odds_69 : decode cX7_odds 69 = .ok (.iaload, 1) := by decide +kernel
theorem dX7_odds_70 : decode cX7_odds 70 = .ok (.iconst 1, 1) := by decide +kernel
theorem dX7_odds_71 : decode cX7_odds 71 = .ok (.isub, 1) := by decide +kernel
theorem dX7_odds_72 : decode cX7_odds 72 = .ok (.istore 7, 2) := by decide +kernel
theorem dX7_odds_74 : decode cX7_odds 74 = .ok (.iload 7, 2) := by decide +kernel
theorem dX7_odds_76 : decode cX7_odds 76 = .ok (.ifCond .lt 59, 3) := by decide +kernel
theorem dX7_odds_79 : decode cX7_odds 79 = .ok (.iload 5, 2) := by decide +kernel
theorem dX7_odds_81 : decode cX7_odds 81 = .ok (.iload 7, 2) := by decide +kernel
theorem dX7_odds_83 : decode cX7_odds 83 = .ok (.ishr, 1) := by decide +kernel
theorem dX7_odds_84 : decode cX7_odds 84 = .ok (.iconst 1, 1) := by decide +kernel
theorem dX7_odds_85 : decode cX7_odds 85 = .ok (.iand, 1) := by decide +kernel
theorem dX7_odds_86 : decode cX7_odds 86 = .ok (.iconst 1, 1) := by decide +kernel
theorem dX7_odds_87 : decode cX7_odds 87 = .ok (.if_icmp .ne 7, 3) := by decide +kernel
theorem dX7_odds_90 : decode cX7_odds 90 = .ok (.iconst 1, 1) := by decide +kernel
theorem dX7_odds_91 : decode cX7_odds 91 = .ok (.goto 4, 3) := by decide +kernel
theorem dX7_odds_94 : decode cX7_odds 94 = .ok (.iconst 0, 1) := by decide +kernel
theorem dX7_odds_95 : decode cX7_odds 95 = .ok (.istore 8, 2) := by decide +kernel
theorem dX7_odds_97 : decode cX7_odds 97 = .ok (.iload 6, 2) := by decide +kernel
theorem dX7_odds_99 : decode cX7_odds 99 = .ok (.iload 8, 2) := by decide +kernel
theorem dX7_odds_101 : decode cX7_odds 101 = .ok (.ifCond .eq 7, 3) := by decide +kernel
theorem dX7_odds_104 : decode cX7_odds 104 = .ok (.iload_n 1, 1) := by decide +kernel
theorem dX7_odds_105 : decode cX7_odds 105 = .ok (.goto 7, 3) := by decide +kernel
theorem dX7_odds_108 : decode cX7_odds 108 = .ok (.bipush 10, 2) := by decide +kernel
theorem dX7_odds_110 : decode cX7_odds 110 = .ok (.iload_n 1, 1) := by decide +kernel
theorem dX7_odds_111 : decode cX7_odds 111 = .ok (.isub, 1) := by decide +kernel
theorem dX7_odds_112 : decode cX7_odds 112 = .ok (.imul, 1) := by decide +kernel
theorem dX7_odds_113 : decode cX7_odds 113 = .ok (.istore 6, 2) := by decide +kernel
theorem dX7_odds_115 : decode cX7_odds 115 = .ok (.iload 8, 2) := by decide +kernel
theorem dX7_odds_117 : decode cX7_odds 117 = .ok (.ifCond .eq 12, 3) := by decide +kernel
theorem dX7_odds_120 : decode cX7_odds 120 = .ok (.aload_n 0, 1) := by decide +kernel
theorem dX7_odds_121 : decode cX7_odds 121 = .ok (.getfield 49, 3) := by decide +kernel
theorem dX7_odds_124 : decode cX7_odds 124 = .ok (.iload 7, 2) := by decide +kernel
theorem dX7_odds_126 : decode cX7_odds 126 = .ok (.invokestatic 128, 3) := by decide +kernel
theorem dX7_odds_129 : decode cX7_odds 129 = .ok (.iinc 7 (-1), 3) := by decide +kernel
theorem dX7_odds_132 : decode cX7_odds 132 = .ok (.goto (-58), 3) := by decide +kernel
theorem dX7_odds_135 : decode cX7_odds 135 = .ok (.iload 4, 2) := by decide +kernel
theorem dX7_odds_137 : decode cX7_odds 137 = .ok (.iload 6, 2) := by decide +kernel
theorem dX7_odds_139 : decode cX7_odds 139 = .ok (.iadd, 1) := by decide +kernel
theorem dX7_odds_140 : decode cX7_odds 140 = .ok (.istore 4, 2) := by decide +kernel
theorem dX7_odds_142 : decode cX7_odds 142 = .ok (.iload_n 3, 1) := by decide +kernel
theorem dX7_odds_143 : decode cX7_odds 143 = .ok (.iload 6, 2) := by decide +kernel
theorem dX7_odds_145 : decode cX7_odds 145 = .ok (.ifCond .le 20, 3) := by decide +kernel
theorem dX7_odds_148 : decode cX7_odds 148 = .ok (.aload_n 0, 1) := by decide +kernel
theorem dX7_odds_149 : decode cX7_odds 149 = .ok (.aload_n 0, 1) := by decide +kernel
theorem dX7_odds_150 : decode cX7_odds 150 = .ok (.getfield 49, 3) := by decide +kernel
theorem dX7_odds_153 : decode cX7_odds 153 = .ok (.invokevirtual 137, 3) := by decide +kernel
theorem dX7_odds_156 : decode cX7_odds 156 = .ok (.iconst 1, 1) := by decide +kernel
theorem dX7_odds_157 : decode cX7_odds 157 = .ok (.if_icmp .ne 8, 3) := by decide +kernel
theorem dX7_odds_160 : decode cX7_odds 160 = .ok (.iload 6, 2) := by decide +kernel
theorem dX7_odds_162 : decode cX7_odds 162 = .ok (.goto 4, 3) := by decide +kernel
theorem dX7_odds_165 : decode cX7_odds 165 = .ok (.iconst 0, 1) := by decide +kernel
theorem dX7_odds_166 : decode cX7_odds 166 = .ok (.iadd, 1) := by decide +kernel
theorem dX7_odds_167 : decode cX7_odds 167 = .ok (.istore_n 3, 1) := by decide +kernel
theorem dX7_odds_168 : decode cX7_odds 168 = .ok (.iinc 5 1, 3) := by decide +kernel
theorem dX7_odds_171 : decode cX7_odds 171 = .ok (.goto (-134), 3) := by decide +kernel
theorem dX7_odds_174 : decode cX7_odds 174 = .ok (.iload_n 3, 1) := by decide +kernel
theorem dX7_odds_175 : decode cX7_odds 175 = .ok (.iload 4, 2) := by decide +kernel
theorem dX7_odds_177 : decode cX7_odds 177 = .ok (.iload_n 2, 1) := by decide +kernel
theorem dX7_odds_178 : decode cX7_odds 178 = .ok (.ifCond .ne 7, 3) := by decide +kernel
theorem dX7_odds_181 : decode cX7_odds 181 = .ok (.iconst 1, 1) := by decide +kernel
theorem dX7_odds_182 : decode cX7_odds 182 = .ok (.goto 4, 3) := by decide +kernel
theorem dX7_odds_185 : decode cX7_odds 185 = .ok (.iconst 0, 1) := by decide +kernel
theorem dX7_odds_186 : decode cX7_odds 186 = .ok (.invokestatic 168, 3) := by decide +kernel
theorem dX7_odds_189 : decode cX7_odds 189 = .ok (.ireturn, 1) := by decide +kernel
set_option maxRecDepth 20000 in
theorem ggX7_countsOf_X7_greatestOf : GoodIn wsX7_countsOf wsX7_greatestOf := goodIn_r _ [5, 6, 7, 8, 9, 10, 4, 11, 18, 19, 20, 21, 22, 23, 24, 25, 26, 27, 28, 29, 30, 31, 32, 33, 34, 35, 36, 37, 38, 39, 40] (by decide +kernel) (by decide +kernel)
set_option maxRecDepth 20000 in
theorem gX7_countsOf_X7_greatestOf : GoodIn wsX7_countsOf (wsV RX7 184 RX7 yX7_greatestOf wsX7_greatestOf) := goodIn_app (goodIn_of _ (by decide +kernel)) ggX7_countsOf_X7_greatestOf
set_option maxRecDepth 20000 in
theorem ggX7_countsOf_X7_leastOf : GoodIn wsX7_countsOf wsX7_leastOf := goodIn_r _ [15, 6, 16, 17, 9, 10, 4, 11, 18, 19, 20, 21, 22, 23, 24, 25, 26, 27, 28, 29, 30, 31, 32, 33, 34, 35, 36, 37, 38, 39, 40] (by decide +kernel) (by decide +kernel)
set_option maxRecDepth 20000 in
theorem gX7_countsOf_X7_leastOf : GoodIn wsX7_countsOf (wsV RX7 187 RX7 yX7_leastOf wsX7_leastOf) := goodIn_app (goodIn_of _ (by decide +kernel)) ggX7_countsOf_X7_leastOf
theorem dX7_countsOf_0 : decode cX7_countsOf 0 = .ok (.aload_n 0, 1) := by decide +kernel
theorem dX7_countsOf_1 : decode cX7_countsOf 1 = .ok (.iload_n 1, 1) := by decide +kernel
theorem dX7_countsOf_2 : decode cX7_countsOf 2 = .ok (.iload_n 2, 1) := by decide +kernel
theorem dX7_countsOf_3 : decode cX7_countsOf 3 = .ok (.invokevirtual 184, 3) := by decide +kernel
theorem dX7_countsOf_6 : decode cX7_countsOf 6 = .ok (.aload_n 0, 1) := by decide +kernel
theorem dX7_countsOf_7 : decode cX7_countsOf 7 = .ok (.iload_n 1, 1) := by decide +kernel
theorem dX7_countsOf_8 : decode cX7_countsOf 8 = .ok (.iload_n 2, 1) := by decide +kernel
theorem dX7_countsOf_9 : decode cX7_countsOf 9 = .ok (.invokevirtual 187, 3) := by decide +kernel
theorem dX7_countsOf_12 : decode cX7_countsOf 12 = .ok (.isub, 1) := by decide +kernel
theorem dX7_countsOf_13 : decode cX7_countsOf 13 = .ok (.iconst 1, 1) := by decide +kernel
theorem dX7_countsOf_14 : decode cX7_countsOf 14 = .ok (.iadd, 1) := by decide +kernel
theorem dX7_countsOf_15 : decode cX7_countsOf 15 = .ok (.istore_n 3, 1) := by decide +kernel
theorem dX7_countsOf_16 : decode cX7_countsOf 16 = .ok (.iload_n 3, 1) := by decide +kernel
theorem dX7_countsOf_17 : decode cX7_countsOf 17 = .ok (.ifCond .ge 7, 3) := by decide +kernel
theorem dX7_countsOf_20 : decode cX7_countsOf 20 = .ok (.iconst 0, 1) := by decide +kernel
theorem dX7_countsOf_21 : decode cX7_countsOf 21 = .ok (.goto 4, 3) := by decide +kernel
theorem dX7_countsOf_24 : decode cX7_countsOf 24 = .ok (.iload_n 3, 1) := by decide +kernel
theorem dX7_countsOf_25 : decode cX7_countsOf 25 = .ok (.ireturn, 1) := by decide +kernel
set_option maxRecDepth 20000 in
theorem ggX7_leastOf_X7_apart : GoodIn wsX7_leastOf wsX7_apart := goodIn_r _ [7] (by decide +kernel) (by decide +kernel)
set_option maxRecDepth 20000 in
theorem gX7_leastOf_X7_apart : GoodIn wsX7_leastOf (va_wsS RX7 144 yX7_apart wsX7_apart) := goodIn_app (goodIn_of _ (by decide +kernel)) ggX7_leastOf_X7_apart
theorem dX7_leastOf_0 : decode cX7_leastOf 0 = .ok (.aload_n 0, 1) := by decide +kernel
theorem dX7_leastOf_1 : decode cX7_leastOf 1 = .ok (.getfield 46, 3) := by decide +kernel
theorem dX7_leastOf_4 : decode cX7_leastOf 4 = .ok (.iload_n 1, 1) := by decide +kernel
theorem dX7_leastOf_5 : decode cX7_leastOf 5 = .ok (.iload_n 2, 1) := by decide +kernel
theorem dX7_leastOf_6 : decode cX7_leastOf 6 = .ok (.invokestatic 144, 3) := by decide +kernel
theorem dX7_leastOf_9 : decode cX7_leastOf 9 = .ok (.iconst 2, 1) := by decide +kernel
theorem dX7_leastOf_10 : decode cX7_leastOf 10 = .ok (.aload_n 0, 1) := by decide +kernel
theorem dX7_leastOf_11 : decode cX7_leastOf 11 = .ok (.getfield 46, 3) := by decide +kernel
theorem dX7_leastOf_14 : decode cX7_leastOf 14 = .ok (.iconst 3, 1) := by decide +kernel
theorem dX7_leastOf_15 : decode cX7_leastOf 15 = .ok (.iaload, 1) := by decide +kernel
theorem dX7_leastOf_16 : decode cX7_leastOf 16 = .ok (.imul, 1) := by decide +kernel
theorem dX7_leastOf_17 : decode cX7_leastOf 17 = .ok (.isub, 1) := by decide +kernel
theorem dX7_leastOf_18 : decode cX7_leastOf 18 = .ok (.aload_n 0, 1) := by decide +kernel
theorem dX7_leastOf_19 : decode cX7_leastOf 19 = .ok (.getfield 77, 3) := by decide +kernel
theorem dX7_leastOf_22 : decode cX7_leastOf 22 = .ok (.iconst 0, 1) := by decide +kernel
theorem dX7_leastOf_23 : decode cX7_leastOf 23 = .ok (.iaload, 1) := by decide +kernel
theorem dX7_leastOf_24 : decode cX7_leastOf 24 = .ok (.imul, 1) := by decide +kernel
theorem dX7_leastOf_25 : decode cX7_leastOf 25 = .ok (.istore_n 3, 1) := by decide +kernel
theorem dX7_leastOf_26 : decode cX7_leastOf 26 = .ok (.iload_n 3, 1) := by decide +kernel
theorem dX7_leastOf_27 : decode cX7_leastOf 27 = .ok (.ifCond .gt 7, 3) := by decide +kernel
theorem dX7_leastOf_30 : decode cX7_leastOf 30 = .ok (.iconst 0, 1) := by decide +kernel
theorem dX7_leastOf_31 : decode cX7_leastOf 31 = .ok (.goto 20, 3) := by decide +kernel
theorem dX7_leastOf_34 : decode cX7_leastOf 34 = .ok (.iload_n 3, 1) := by decide +kernel
theorem dX7_leastOf_35 : decode cX7_leastOf 35 = .ok (.aload_n 0, 1) := by decide +kernel
theorem dX7_leastOf_36 : decode cX7_leastOf 36 = .ok (.getfield 74, 3) := by decide +kernel
theorem dX7_leastOf_39 : decode cX7_leastOf 39 = .ok (.iconst 0, 1) := by decide +kernel
theorem dX7_leastOf_40 : decode cX7_leastOf 40 = .ok (.iaload, 1) := by decide +kernel
theorem dX7_leastOf_41 : decode cX7_leastOf 41 = .ok (.iadd, 1) := by decide +kernel
theorem dX7_leastOf_42 : decode cX7_leastOf 42 = .ok (.iconst 1, 1) := by decide +kernel
theorem dX7_leastOf_43 : decode cX7_leastOf 43 = .ok (.isub, 1) := by decide +kernel
theorem dX7_leastOf_44 : decode cX7_leastOf 44 = .ok (.aload_n 0, 1) := by decide +kernel
theorem dX7_leastOf_45 : decode cX7_leastOf 45 = .ok (.getfield 74, 3) := by decide +kernel
theorem dX7_leastOf_48 : decode cX7_leastOf 48 = .ok (.iconst 0, 1) := by decide +kernel
theorem dX7_leastOf_49 : decode cX7_leastOf 49 = .ok (.iaload, 1) := by decide +kernel
theorem dX7_leastOf_50 : decode cX7_leastOf 50 = .ok (.idiv, 1) := by decide +kernel
theorem dX7_leastOf_51 : decode cX7_leastOf 51 = .ok (.istore 4, 2) := by decide +kernel
theorem dX7_leastOf_53 : decode cX7_leastOf 53 = .ok (.iload 4, 2) := by decide +kernel
theorem dX7_leastOf_55 : decode cX7_leastOf 55 = .ok (.iload_n 2, 1) := by decide +kernel
theorem dX7_leastOf_56 : decode cX7_leastOf 56 = .ok (.iload_n 1, 1) := by decide +kernel
theorem dX7_leastOf_57 : decode cX7_leastOf 57 = .ok (.isub, 1) := by decide +kernel
theorem dX7_leastOf_58 : decode cX7_leastOf 58 = .ok (.if_icmp .ge 9, 3) := by decide +kernel
theorem dX7_leastOf_61 : decode cX7_leastOf 61 = .ok (.iload_n 2, 1) := by decide +kernel
theorem dX7_leastOf_62 : decode cX7_leastOf 62 = .ok (.iload_n 1, 1) := by decide +kernel
theorem dX7_leastOf_63 : decode cX7_leastOf 63 = .ok (.isub, 1) := by decide +kernel
theorem dX7_leastOf_64 : decode cX7_leastOf 64 = .ok (.goto 5, 3) := by decide +kernel
theorem dX7_leastOf_67 : decode cX7_leastOf 67 = .ok (.iload 4, 2) := by decide +kernel
theorem dX7_leastOf_69 : decode cX7_leastOf 69 = .ok (.ireturn, 1) := by decide +kernel
set_option maxRecDepth 20000 in
theorem ggX7_greatestOf_X7_apart : GoodIn wsX7_greatestOf wsX7_apart := goodIn_r _ [7] (by decide +kernel) (by decide +kernel)
set_option maxRecDepth 20000 in
theorem gX7_greatestOf_X7_apart : GoodIn wsX7_greatestOf (va_wsS RX7 144 yX7_apart wsX7_apart) := goodIn_app (goodIn_of _ (by decide +kernel)) ggX7_greatestOf_X7_apart
theorem dX7_greatestOf_0 : decode cX7_greatestOf 0 = .ok (.aload_n 0, 1) := by decide +kernel
theorem dX7_greatestOf_1 : decode cX7_greatestOf 1 = .ok (.getfield 46, 3) := by decide +kernel
