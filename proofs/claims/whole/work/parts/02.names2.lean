theorem dX3_init_4 : decode cX3_init 4 = .ok (.aload_n 0, 1) := by decide +kernel
theorem dX3_init_5 : decode cX3_init 5 = .ok (.bipush 10, 2) := by decide +kernel
theorem dX3_init_7 : decode cX3_init 7 = .ok (.anewarray 9, 3) := by decide +kernel
theorem dX3_init_10 : decode cX3_init 10 = .ok (.putfield 11, 3) := by decide +kernel
theorem dX3_init_13 : decode cX3_init 13 = .ok (.iconst 0, 1) := by decide +kernel
theorem dX3_init_14 : decode cX3_init 14 = .ok (.istore_n 1, 1) := by decide +kernel
theorem dX3_init_15 : decode cX3_init 15 = .ok (.iload_n 1, 1) := by decide +kernel
theorem dX3_init_16 : decode cX3_init 16 = .ok (.bipush 10, 2) := by decide +kernel
theorem dX3_init_18 : decode cX3_init 18 = .ok (.if_icmp .ge 22, 3) := by decide +kernel
theorem dX3_init_21 : decode cX3_init 21 = .ok (.aload_n 0, 1) := by decide +kernel
theorem dX3_init_22 : decode cX3_init 22 = .ok (.getfield 11, 3) := by decide +kernel
theorem dX3_init_25 : decode cX3_init 25 = .ok (.iload_n 1, 1) := by decide +kernel
theorem dX3_init_26 : decode cX3_init 26 = .ok (.new 9, 3) := by decide +kernel
theorem dX3_init_29 : decode cX3_init 29 = .ok (.dup, 1) := by decide +kernel
theorem dX3_init_30 : decode cX3_init 30 = .ok (.invokespecial 17, 3) := by decide +kernel
theorem dX3_init_33 : decode cX3_init 33 = .ok (.aastore, 1) := by decide +kernel
theorem dX3_init_34 : decode cX3_init 34 = .ok (.iinc 1 1, 3) := by decide +kernel
theorem dX3_init_37 : decode cX3_init 37 = .ok (.goto (-22), 3) := by decide +kernel
theorem dX3_init_40 : decode cX3_init 40 = .ok (.return_, 1) := by decide +kernel
set_option maxRecDepth 20000 in
theorem ggX3_push_X1_take : GoodIn wsX3_push wsX1_take := goodIn_r _ [12, 13, 14, 15, 16, 17, 21, 22, 23, 24, 25] (by decide +kernel) (by decide +kernel)
set_option maxRecDepth 20000 in
theorem gX3_push_X1_take : GoodIn wsX3_push (wsV RX3 22 RX1 yX1_take wsX1_take) := goodIn_app (goodIn_of _ (by decide +kernel)) ggX3_push_X1_take
theorem dX3_push_0 : decode cX3_push 0 = .ok (.aload_n 0, 1) := by decide +kernel
theorem dX3_push_1 : decode cX3_push 1 = .ok (.getfield 11, 3) := by decide +kernel
theorem dX3_push_4 : decode cX3_push 4 = .ok (.aload_n 0, 1) := by decide +kernel
theorem dX3_push_5 : decode cX3_push 5 = .ok (.getfield 18, 3) := by decide +kernel
theorem dX3_push_8 : decode cX3_push 8 = .ok (.aaload, 1) := by decide +kernel
theorem dX3_push_9 : decode cX3_push 9 = .ok (.aload_n 1, 1) := by decide +kernel
theorem dX3_push_10 : decode cX3_push 10 = .ok (.invokevirtual 22, 3) := by decide +kernel
theorem dX3_push_13 : decode cX3_push 13 = .ok (.aload_n 0, 1) := by decide +kernel
theorem dX3_push_14 : decode cX3_push 14 = .ok (.aload_n 0, 1) := by decide +kernel
theorem dX3_push_15 : decode cX3_push 15 = .ok (.getfield 18, 3) := by decide +kernel
theorem dX3_push_18 : decode cX3_push 18 = .ok (.iconst 1, 1) := by decide +kernel
theorem dX3_push_19 : decode cX3_push 19 = .ok (.iadd, 1) := by decide +kernel
theorem dX3_push_20 : decode cX3_push 20 = .ok (.bipush 10, 2) := by decide +kernel
theorem dX3_push_22 : decode cX3_push 22 = .ok (.if_icmp .ge 12, 3) := by decide +kernel
theorem dX3_push_25 : decode cX3_push 25 = .ok (.aload_n 0, 1) := by decide +kernel
theorem dX3_push_26 : decode cX3_push 26 = .ok (.getfield 18, 3) := by decide +kernel
theorem dX3_push_29 : decode cX3_push 29 = .ok (.iconst 1, 1) := by decide +kernel
theorem dX3_push_30 : decode cX3_push 30 = .ok (.iadd, 1) := by decide +kernel
theorem dX3_push_31 : decode cX3_push 31 = .ok (.goto 4, 3) := by decide +kernel
theorem dX3_push_34 : decode cX3_push 34 = .ok (.iconst 0, 1) := by decide +kernel
theorem dX3_push_35 : decode cX3_push 35 = .ok (.putfield 18, 3) := by decide +kernel
theorem dX3_push_38 : decode cX3_push 38 = .ok (.aload_n 0, 1) := by decide +kernel
theorem dX3_push_39 : decode cX3_push 39 = .ok (.aload_n 0, 1) := by decide +kernel
theorem dX3_push_40 : decode cX3_push 40 = .ok (.getfield 26, 3) := by decide +kernel
theorem dX3_push_43 : decode cX3_push 43 = .ok (.iconst 1, 1) := by decide +kernel
theorem dX3_push_44 : decode cX3_push 44 = .ok (.iadd, 1) := by decide +kernel
theorem dX3_push_45 : decode cX3_push 45 = .ok (.bipush 10, 2) := by decide +kernel
theorem dX3_push_47 : decode cX3_push 47 = .ok (.invokestatic 29, 3) := by decide +kernel
theorem dX3_push_50 : decode cX3_push 50 = .ok (.putfield 26, 3) := by decide +kernel
theorem dX3_push_53 : decode cX3_push 53 = .ok (.return_, 1) := by decide +kernel
set_option maxRecDepth 20000 in
theorem ggX3_pull_X1_take : GoodIn wsX3_pull wsX1_take := goodIn_r _ [8, 9, 10, 11, 12, 13, 17, 18, 19, 20, 21] (by decide +kernel) (by decide +kernel)
set_option maxRecDepth 20000 in
theorem gX3_pull_X1_take : GoodIn wsX3_pull (wsV RX3 22 RX1 yX1_take wsX1_take) := goodIn_app (goodIn_of _ (by decide +kernel)) ggX3_pull_X1_take
theorem dX3_pull_0 : decode cX3_pull 0 = .ok (.aload_n 0, 1) := by decide +kernel
theorem dX3_pull_1 : decode cX3_pull 1 = .ok (.getfield 26, 3) := by decide +kernel
theorem dX3_pull_4 : decode cX3_pull 4 = .ok (.ifCond .gt 5, 3) := by decide +kernel
theorem dX3_pull_7 : decode cX3_pull 7 = .ok (.iconst 0, 1) := by decide +kernel
theorem dX3_pull_8 : decode cX3_pull 8 = .ok (.ireturn, 1) := by decide +kernel
theorem dX3_pull_9 : decode cX3_pull 9 = .ok (.aload_n 0, 1) := by decide +kernel
theorem dX3_pull_10 : decode cX3_pull 10 = .ok (.aload_n 0, 1) := by decide +kernel
theorem dX3_pull_11 : decode cX3_pull 11 = .ok (.getfield 18, 3) := by decide +kernel
theorem dX3_pull_14 : decode cX3_pull 14 = .ok (.ifCond .le 12, 3) := by decide +kernel
theorem dX3_pull_17 : decode cX3_pull 17 = .ok (.aload_n 0, 1) := by decide +kernel
theorem dX3_pull_18 : decode cX3_pull 18 = .ok (.getfield 18, 3) := by decide +kernel
theorem dX3_pull_21 : decode cX3_pull 21 = .ok (.iconst 1, 1) := by decide +kernel
theorem dX3_pull_22 : decode cX3_pull 22 = .ok (.isub, 1) := by decide +kernel
theorem dX3_pull_23 : decode cX3_pull 23 = .ok (.goto 5, 3) := by decide +kernel
theorem dX3_pull_26 : decode cX3_pull 26 = .ok (.bipush 9, 2) := by decide +kernel
theorem dX3_pull_28 : decode cX3_pull 28 = .ok (.putfield 18, 3) := by decide +kernel
theorem dX3_pull_31 : decode cX3_pull 31 = .ok (.aload_n 0, 1) := by decide +kernel
theorem dX3_pull_32 : decode cX3_pull 32 = .ok (.dup, 1) := by decide +kernel
theorem dX3_pull_33 : decode cX3_pull 33 = .ok (.getfield 26, 3) := by decide +kernel
theorem dX3_pull_36 : decode cX3_pull 36 = .ok (.iconst 1, 1) := by decide +kernel
theorem dX3_pull_37 : decode cX3_pull 37 = .ok (.isub, 1) := by decide +kernel
theorem dX3_pull_38 : decode cX3_pull 38 = .ok (.putfield 26, 3) := by decide +kernel
theorem dX3_pull_41 : decode cX3_pull 41 = .ok (.aload_n 1, 1) := by decide +kernel
theorem dX3_pull_42 : decode cX3_pull 42 = .ok (.aload_n 0, 1) := by decide +kernel
theorem dX3_pull_43 : decode cX3_pull 43 = .ok (.getfield 11, 3) := by decide +kernel
theorem dX3_pull_46 : decode cX3_pull 46 = .ok (.aload_n 0, 1) := by decide +kernel
theorem dX3_pull_47 : decode cX3_pull 47 = .ok (.getfield 18, 3) := by decide +kernel
theorem dX3_pull_50 : decode cX3_pull 50 = .ok (.aaload, 1) := by decide +kernel
theorem dX3_pull_51 : decode cX3_pull 51 = .ok (.invokevirtual 22, 3) := by decide +kernel
theorem dX3_pull_54 : decode cX3_pull 54 = .ok (.iconst 1, 1) := by decide +kernel
theorem dX3_pull_55 : decode cX3_pull 55 = .ok (.ireturn, 1) := by decide +kernel
theorem dX3_forget_0 : decode cX3_forget 0 = .ok (.aload_n 0, 1) := by decide +kernel
theorem dX3_forget_1 : decode cX3_forget 1 = .ok (.iconst 0, 1) := by decide +kernel
theorem dX3_forget_2 : decode cX3_forget 2 = .ok (.putfield 26, 3) := by decide +kernel
theorem dX3_forget_5 : decode cX3_forget 5 = .ok (.return_, 1) := by decide +kernel
theorem dX4_init_0 : decode cX4_init 0 = .ok (.aload_n 0, 1) := by decide +kernel
theorem dX4_init_1 : decode cX4_init 1 = .ok (.invokespecial 3, 3) := by decide +kernel
theorem dX4_init_4 : decode cX4_init 4 = .ok (.aload_n 0, 1) := by decide +kernel
theorem dX4_init_5 : decode cX4_init 5 = .ok (.iconst 1, 1) := by decide +kernel
theorem dX4_init_6 : decode cX4_init 6 = .ok (.putfield 9, 3) := by decide +kernel
theorem dX4_init_9 : decode cX4_init 9 = .ok (.aload_n 0, 1) := by decide +kernel
theorem dX4_init_10 : decode cX4_init 10 = .ok (.iconst 1, 1) := by decide +kernel
theorem dX4_init_11 : decode cX4_init 11 = .ok (.putfield 15, 3) := by decide +kernel
theorem dX4_init_14 : decode cX4_init 14 = .ok (.aload_n 0, 1) := by decide +kernel
theorem dX4_init_15 : decode cX4_init 15 = .ok (.iconst 1, 1) := by decide +kernel
theorem dX4_init_16 : decode cX4_init 16 = .ok (.putfield 18, 3) := by decide +kernel
theorem dX4_init_19 : decode cX4_init 19 = .ok (.aload_n 0, 1) := by decide +kernel
theorem dX4_init_20 : decode cX4_init 20 = .ok (.iconst 1, 1) := by decide +kernel
theorem dX4_init_21 : decode cX4_init 21 = .ok (.putfield 21, 3) := by decide +kernel
theorem dX4_init_24 : decode cX4_init 24 = .ok (.return_, 1) := by decide +kernel
theorem dX4_spread_0 : decode cX4_spread 0 = .ok (.aload_n 0, 1) := by decide +kernel
theorem dX4_spread_1 : decode cX4_spread 1 = .ok (.iload_n 1, 1) := by decide +kernel
theorem dX4_spread_2 : decode cX4_spread 2 = .ok (.putfield 9, 3) := by decide +kernel
theorem dX4_spread_5 : decode cX4_spread 5 = .ok (.aload_n 0, 1) := by decide +kernel
theorem dX4_spread_6 : decode cX4_spread 6 = .ok (.iconst 1, 1) := by decide +kernel
theorem dX4_spread_7 : decode cX4_spread 7 = .ok (.putfield 15, 3) := by decide +kernel
theorem dX4_spread_10 : decode cX4_spread 10 = .ok (.aload_n 0, 1) := by decide +kernel
theorem dX4_spread_11 : decode cX4_spread 11 = .ok (.iload_n 2, 1) := by decide +kernel
theorem dX4_spread_12 : decode cX4_spread 12 = .ok (.putfield 18, 3) := by decide +kernel
theorem dX4_spread_15 : decode cX4_spread 15 = .ok (.aload_n 0, 1) := by decide +kernel
theorem dX4_spread_16 : decode cX4_spread 16 = .ok (.iconst 1, 1) := by decide +kernel
theorem dX4_spread_17 : decode cX4_spread 17 = .ok (.putfield 21, 3) := by decide +kernel
theorem dX4_spread_20 : decode cX4_spread 20 = .ok (.return_, 1) := by decide +kernel
theorem dX4_take_0 : decode cX4_take 0 = .ok (.aload_n 0, 1) := by decide +kernel
theorem dX4_take_1 : decode cX4_take 1 = .ok (.aload_n 1, 1) := by decide +kernel
theorem dX4_take_2 : decode cX4_take 2 = .ok (.getfield 9, 3) := by decide +kernel
theorem dX4_take_5 : decode cX4_take 5 = .ok (.putfield 9, 3) := by decide +kernel
theorem dX4_take_8 : decode cX4_take 8 = .ok (.aload_n 0, 1) := by decide +kernel
theorem dX4_take_9 : decode cX4_take 9 = .ok (.aload_n 1, 1) := by decide +kernel
theorem dX4_take_10 : decode cX4_take 10 = .ok (.getfield 15, 3) := by decide +kernel
theorem dX4_take_13 : decode cX4_take 13 = .ok (.putfield 15, 3) := by decide +kernel
theorem dX4_take_16 : decode cX4_take 16 = .ok (.aload_n 0, 1) := by decide +kernel
theorem dX4_take_17 : decode cX4_take 17 = .ok (.aload_n 1, 1) := by decide +kernel
theorem dX4_take_18 : decode cX4_take 18 = .ok (.getfield 18, 3) := by decide +kernel
theorem dX4_take_21 : decode cX4_take 21 = .ok (.putfield 18, 3) := by decide +kernel
theorem dX4_take_24 : decode cX4_take 24 = .ok (.aload_n 0, 1) := by decide +kernel
theorem dX4_take_25 : decode cX4_take 25 = .ok (.aload_n 1, 1) := by decide +kernel
theorem dX4_take_26 : decode cX4_take 26 = .ok (.getfield 21, 3) := by decide +kernel
theorem dX4_take_29 : decode cX4_take 29 = .ok (.putfield 21, 3) := by decide +kernel
theorem dX4_take_32 : decode cX4_take 32 = .ok (.return_, 1) := by decide +kernel
theorem dX4_isEmpty_0 : decode cX4_isEmpty 0 = .ok (.aload_n 0, 1) := by decide +kernel
theorem dX4_isEmpty_1 : decode cX4_isEmpty 1 = .ok (.getfield 9, 3) := by decide +kernel
theorem dX4_isEmpty_4 : decode cX4_isEmpty 4 = .ok (.aload_n 0, 1) := by decide +kernel
theorem dX4_isEmpty_5 : decode cX4_isEmpty 5 = .ok (.getfield 21, 3) := by decide +kernel
theorem dX4_isEmpty_8 : decode cX4_isEmpty 8 = .ok (.imul, 1) := by decide +kernel
theorem dX4_isEmpty_9 : decode cX4_isEmpty 9 = .ok (.aload_n 0, 1) := by decide +kernel
theorem dX4_isEmpty_10 : decode cX4_isEmpty 10 = .ok (.getfield 18, 3) := by decide +kernel
theorem dX4_isEmpty_13 : decode cX4_isEmpty 13 = .ok (.aload_n 0, 1) := by decide +kernel
theorem dX4_isEmpty_14 : decode cX4_isEmpty 14 = .ok (.getfield 15, 3) := by decide +kernel
theorem dX4_isEmpty_17 : decode cX4_isEmpty 17 = .ok (.imul, 1) := by decide +kernel
theorem dX4_isEmpty_18 : decode cX4_isEmpty 18 = .ok (.if_icmp .le 7, 3) := by decide +kernel
theorem dX4_isEmpty_21 : decode cX4_isEmpty 21 = .ok (.iconst 1, 1) := by decide +kernel
theorem dX4_isEmpty_22 : decode cX4_isEmpty 22 = .ok (.goto 4, 3) := by decide +kernel
theorem dX4_isEmpty_25 : decode cX4_isEmpty 25 = .ok (.iconst 0, 1) := by decide +kernel
theorem dX4_isEmpty_26 : decode cX4_isEmpty 26 = .ok (.ireturn, 1) := by decide +kernel
theorem dX4_cut_0 : decode cX4_cut 0 = .ok (.iconst 0, 1) := by decide +kernel
theorem dX4_cut_1 : decode cX4_cut 1 = .ok (.istore 4, 2) := by decide +kernel
theorem dX4_cut_3 : decode cX4_cut 3 = .ok (.iload_n 1, 1) := by decide +kernel
theorem dX4_cut_4 : decode cX4_cut 4 = .ok (.iload_n 2, 1) := by decide +kernel
theorem dX4_cut_5 : decode cX4_cut 5 = .ok (.isub, 1) := by decide +kernel
theorem dX4_cut_6 : decode cX4_cut 6 = .ok (.aload_n 0, 1) := by decide +kernel
theorem dX4_cut_7 : decode cX4_cut 7 = .ok (.getfield 15, 3) := by decide +kernel
theorem dX4_cut_10 : decode cX4_cut 10 = .ok (.imul, 1) := by decide +kernel
theorem dX4_cut_11 : decode cX4_cut 11 = .ok (.aload_n 0, 1) := by decide +kernel
theorem dX4_cut_12 : decode cX4_cut 12 = .ok (.getfield 9, 3) := by decide +kernel
theorem dX4_cut_15 : decode cX4_cut 15 = .ok (.iload_n 3, 1) := by decide +kernel
theorem dX4_cut_16 : decode cX4_cut 16 = .ok (.imul, 1) := by decide +kernel
theorem dX4_cut_17 : decode cX4_cut 17 = .ok (.if_icmp .le 18, 3) := by decide +kernel
theorem dX4_cut_20 : decode cX4_cut 20 = .ok (.aload_n 0, 1) := by decide +kernel
theorem dX4_cut_21 : decode cX4_cut 21 = .ok (.iload_n 1, 1) := by decide +kernel
theorem dX4_cut_22 : decode cX4_cut 22 = .ok (.iload_n 2, 1) := by decide +kernel
theorem dX4_cut_23 : decode cX4_cut 23 = .ok (.isub, 1) := by decide +kernel
theorem dX4_cut_24 : decode cX4_cut 24 = .ok (.putfield 9, 3) := by decide +kernel
theorem dX4_cut_27 : decode cX4_cut 27 = .ok (.aload_n 0, 1) := by decide +kernel
theorem dX4_cut_28 : decode cX4_cut 28 = .ok (.iload_n 3, 1) := by decide +kernel
theorem dX4_cut_29 : decode cX4_cut 29 = .ok (.putfield 15, 3) := by decide +kernel
theorem dX4_cut_32 : decode cX4_cut 32 = .ok (.iconst 1, 1) := by decide +kernel
theorem dX4_cut_33 : decode cX4_cut 33 = .ok (.istore 4, 2) := by decide +kernel
theorem dX4_cut_35 : decode cX4_cut 35 = .ok (.iload_n 1, 1) := by decide +kernel
theorem dX4_cut_36 : decode cX4_cut 36 = .ok (.iload_n 2, 1) := by decide +kernel
theorem dX4_cut_37 : decode cX4_cut 37 = .ok (.iadd, 1) := by decide +kernel
theorem dX4_cut_38 : decode cX4_cut 38 = .ok (.aload_n 0, 1) := by decide +kernel
theorem dX4_cut_39 : decode cX4_cut 39 = .ok (.getfield 21, 3) := by decide +kernel
theorem dX4_cut_42 : decode cX4_cut 42 = .ok (.imul, 1) := by decide +kernel
theorem dX4_cut_43 : decode cX4_cut 43 = .ok (.aload_n 0, 1) := by decide +kernel
theorem dX4_cut_44 : decode cX4_cut 44 = .ok (.getfield 18, 3) := by decide +kernel
theorem dX4_cut_47 : decode cX4_cut 47 = .ok (.iload_n 3, 1) := by decide +kernel
theorem dX4_cut_48 : decode cX4_cut 48 = .ok (.imul, 1) := by decide +kernel
theorem dX4_cut_49 : decode cX4_cut 49 = .ok (.if_icmp .ge 18, 3) := by decide +kernel
theorem dX4_cut_52 : decode cX4_cut 52 = .ok (.aload_n 0, 1) := by decide +kernel
theorem dX4_cut_53 : decode cX4_cut 53 = .ok (.iload_n 1, 1) := by decide +kernel
theorem dX4_cut_54 : decode cX4_cut 54 = .ok (.iload_n 2, 1) := by decide +kernel
theorem dX4_cut_55 : decode cX4_cut 55 = .ok (.iadd, 1) := by decide +kernel
theorem dX4_cut_56 : decode cX4_cut 56 = .ok (.putfield 18, 3) := by decide +kernel
theorem dX4_cut_59 : decode cX4_cut 59 = .ok (.aload_n 0, 1) := by decide +kernel
theorem dX4_cut_60 : decode cX4_cut 60 = .ok (.iload_n 3, 1) := by decide +kernel
theorem dX4_cut_61 : decode cX4_cut 61 = .ok (.putfield 21, 3) := by decide +kernel
theorem dX4_cut_64 : decode cX4_cut 64 = .ok (.iconst 1, 1) := by decide +kernel
theorem dX4_cut_65 : decode cX4_cut 65 = .ok (.istore 4, 2) := by decide +kernel
theorem dX4_cut_67 : decode cX4_cut 67 = .ok (.iload 4, 2) := by decide +kernel
theorem dX4_cut_69 : decode cX4_cut 69 = .ok (.ireturn, 1) := by decide +kernel
theorem dX4_leastTurns_0 : decode cX4_leastTurns 0 = .ok (.iload_n 1, 1) := by decide +kernel
theorem dX4_leastTurns_1 : decode cX4_leastTurns 1 = .ok (.iload_n 2, 1) := by decide +kernel
theorem dX4_leastTurns_2 : decode cX4_leastTurns 2 = .ok (.if_icmp .le 10, 3) := by decide +kernel
theorem dX4_leastTurns_5 : decode cX4_leastTurns 5 = .ok (.aload_n 0, 1) := by decide +kernel
theorem dX4_leastTurns_6 : decode cX4_leastTurns 6 = .ok (.getfield 18, 3) := by decide +kernel
theorem dX4_leastTurns_9 : decode cX4_leastTurns 9 = .ok (.ifCond .gt 5, 3) := by decide +kernel
theorem dX4_leastTurns_12 : decode cX4_leastTurns 12 = .ok (.iconst 0, 1) := by decide +kernel
theorem dX4_leastTurns_13 : decode cX4_leastTurns 13 = .ok (.ireturn, 1) := by decide +kernel
theorem dX4_leastTurns_14 : decode cX4_leastTurns 14 = .ok (.iload_n 1, 1) := by decide +kernel
theorem dX4_leastTurns_15 : decode cX4_leastTurns 15 = .ok (.iload_n 2, 1) := by decide +kernel
theorem dX4_leastTurns_16 : decode cX4_leastTurns 16 = .ok (.isub, 1) := by decide +kernel
theorem dX4_leastTurns_17 : decode cX4_leastTurns 17 = .ok (.aload_n 0, 1) := by decide +kernel
theorem dX4_leastTurns_18 : decode cX4_leastTurns 18 = .ok (.getfield 21, 3) := by decide +kernel
theorem dX4_leastTurns_21 : decode cX4_leastTurns 21 = .ok (.imul, 1) := by decide +kernel
theorem dX4_leastTurns_22 : decode cX4_leastTurns 22 = .ok (.aload_n 0, 1) := by decide +kernel
theorem dX4_leastTurns_23 : decode cX4_leastTurns 23 = .ok (.getfield 18, 3) := by decide +kernel
theorem dX4_leastTurns_26 : decode cX4_leastTurns 26 = .ok (.iadd, 1) := by decide +kernel
theorem dX4_leastTurns_27 : decode cX4_leastTurns 27 = .ok (.iconst 1, 1) := by decide +kernel
theorem dX4_leastTurns_28 : decode cX4_leastTurns 28 = .ok (.isub, 1) := by decide +kernel
theorem dX4_leastTurns_29 : decode cX4_leastTurns 29 = .ok (.aload_n 0, 1) := by decide +kernel
theorem dX4_leastTurns_30 : decode cX4_leastTurns 30 = .ok (.getfield 18, 3) := by decide +kernel
theorem dX4_leastTurns_33 : decode cX4_leastTurns 33 = .ok (.idiv, 1) := by decide +kernel
theorem dX4_leastTurns_34 : decode cX4_leastTurns 34 = .ok (.ireturn, 1) := by decide +kernel
theorem dX4_greatestTurns_0 : decode cX4_greatestTurns 0 = .ok (.aload_n 0, 1) := by decide +kernel
theorem dX4_greatestTurns_1 : decode cX4_greatestTurns 1 = .ok (.getfield 9, 3) := by decide +kernel
theorem dX4_greatestTurns_4 : decode cX4_greatestTurns 4 = .ok (.ifCond .gt 5, 3) := by decide +kernel
theorem dX4_greatestTurns_7 : decode cX4_greatestTurns 7 = .ok (.iconst 0, 1) := by decide +kernel
theorem dX4_greatestTurns_8 : decode cX4_greatestTurns 8 = .ok (.ireturn, 1) := by decide +kernel
theorem dX4_greatestTurns_9 : decode cX4_greatestTurns 9 = .ok (.iload_n 1, 1) := by decide +kernel
theorem dX4_greatestTurns_10 : decode cX4_greatestTurns 10 = .ok (.iload_n 2, 1) := by decide +kernel
theorem dX4_greatestTurns_11 : decode cX4_greatestTurns 11 = .ok (.iadd, 1) := by decide +kernel
theorem dX4_greatestTurns_12 : decode cX4_greatestTurns 12 = .ok (.aload_n 0, 1) := by decide +kernel
theorem dX4_greatestTurns_13 : decode cX4_greatestTurns 13 = .ok (.getfield 15, 3) := by decide +kernel
theorem dX4_greatestTurns_16 : decode cX4_greatestTurns 16 = .ok (.imul, 1) := by decide +kernel
theorem dX4_greatestTurns_17 : decode cX4_greatestTurns 17 = .ok (.aload_n 0, 1) := by decide +kernel
theorem dX4_greatestTurns_18 : decode cX4_greatestTurns 18 = .ok (.getfield 9, 3) := by decide +kernel
theorem dX4_greatestTurns_21 : decode cX4_greatestTurns 21 = .ok (.idiv, 1) := by decide +kernel
theorem dX4_greatestTurns_22 : decode cX4_greatestTurns 22 = .ok (.ireturn, 1) := by decide +kernel
set_option maxRecDepth 20000 in
theorem ggX4_leastCount_X4_leastTurns : GoodIn wsX4_leastCount wsX4_leastTurns := goodIn_r _ [11, 12, 13, 19, 20, 21, 22] (by decide +kernel) (by decide +kernel)
set_option maxRecDepth 20000 in
theorem gX4_leastCount_X4_leastTurns : GoodIn wsX4_leastCount (wsV RX4 33 RX4 yX4_leastTurns wsX4_leastTurns) := goodIn_app (goodIn_of _ (by decide +kernel)) ggX4_leastCount_X4_leastTurns
theorem dX4_leastCount_0 : decode cX4_leastCount 0 = .ok (.aload_n 1, 1) := by decide +kernel
theorem dX4_leastCount_1 : decode cX4_leastCount 1 = .ok (.getfield 24, 3) := by decide +kernel
theorem dX4_leastCount_4 : decode cX4_leastCount 4 = .ok (.iload_n 3, 1) := by decide +kernel
theorem dX4_leastCount_5 : decode cX4_leastCount 5 = .ok (.iaload, 1) := by decide +kernel
theorem dX4_leastCount_6 : decode cX4_leastCount 6 = .ok (.aload_n 1, 1) := by decide +kernel
theorem dX4_leastCount_7 : decode cX4_leastCount 7 = .ok (.getfield 24, 3) := by decide +kernel
theorem dX4_leastCount_10 : decode cX4_leastCount 10 = .ok (.iload_n 2, 1) := by decide +kernel
theorem dX4_leastCount_11 : decode cX4_leastCount 11 = .ok (.iaload, 1) := by decide +kernel
theorem dX4_leastCount_12 : decode cX4_leastCount 12 = .ok (.isub, 1) := by decide +kernel
theorem dX4_leastCount_13 : decode cX4_leastCount 13 = .ok (.istore 4, 2) := by decide +kernel
theorem dX4_leastCount_15 : decode cX4_leastCount 15 = .ok (.iload_n 3, 1) := by decide +kernel
theorem dX4_leastCount_16 : decode cX4_leastCount 16 = .ok (.iload_n 2, 1) := by decide +kernel
theorem dX4_leastCount_17 : decode cX4_leastCount 17 = .ok (.isub, 1) := by decide +kernel
theorem dX4_leastCount_18 : decode cX4_leastCount 18 = .ok (.aload_n 0, 1) := by decide +kernel
theorem dX4_leastCount_19 : decode cX4_leastCount 19 = .ok (.iload 4, 2) := by decide +kernel
theorem dX4_leastCount_21 : decode cX4_leastCount 21 = .ok (.iconst 2, 1) := by decide +kernel
theorem dX4_leastCount_22 : decode cX4_leastCount 22 = .ok (.aload_n 1, 1) := by decide +kernel
theorem dX4_leastCount_23 : decode cX4_leastCount 23 = .ok (.getfield 30, 3) := by decide +kernel
theorem dX4_leastCount_26 : decode cX4_leastCount 26 = .ok (.imul, 1) := by decide +kernel
theorem dX4_leastCount_27 : decode cX4_leastCount 27 = .ok (.invokevirtual 33, 3) := by decide +kernel
theorem dX4_leastCount_30 : decode cX4_leastCount 30 = .ok (.invokestatic 37, 3) := by decide +kernel
theorem dX4_leastCount_33 : decode cX4_leastCount 33 = .ok (.ireturn, 1) := by decide +kernel
set_option maxRecDepth 20000 in
theorem ggX4_greatestCount_X4_greatestTurns : GoodIn wsX4_greatestCount wsX4_greatestTurns := goodIn_r _ [7, 8, 9, 15, 16, 17, 18] (by decide +kernel) (by decide +kernel)
set_option maxRecDepth 20000 in
theorem gX4_greatestCount_X4_greatestTurns : GoodIn wsX4_greatestCount (wsV RX4 42 RX4 yX4_greatestTurns wsX4_greatestTurns) := goodIn_app (goodIn_of _ (by decide +kernel)) ggX4_greatestCount_X4_greatestTurns
theorem dX4_greatestCount_0 : decode cX4_greatestCount 0 = .ok (.aload_n 0, 1) := by decide +kernel
theorem dX4_greatestCount_1 : decode cX4_greatestCount 1 = .ok (.aload_n 1, 1) := by decide +kernel
theorem dX4_greatestCount_2 : decode cX4_greatestCount 2 = .ok (.getfield 24, 3) := by decide +kernel
theorem dX4_greatestCount_5 : decode cX4_greatestCount 5 = .ok (.iload_n 3, 1) := by decide +kernel
theorem dX4_greatestCount_6 : decode cX4_greatestCount 6 = .ok (.iaload, 1) := by decide +kernel
theorem dX4_greatestCount_7 : decode cX4_greatestCount 7 = .ok (.aload_n 1, 1) := by decide +kernel
theorem dX4_greatestCount_8 : decode cX4_greatestCount 8 = .ok (.getfield 24, 3) := by decide +kernel
theorem dX4_greatestCount_11 : decode cX4_greatestCount 11 = .ok (.iload_n 2, 1) := by decide +kernel
theorem dX4_greatestCount_12 : decode cX4_greatestCount 12 = .ok (.iaload, 1) := by decide +kernel
theorem dX4_greatestCount_13 : decode cX4_greatestCount 13 = .ok (.isub, 1) := by decide +kernel
theorem dX4_greatestCount_14 : decode cX4_greatestCount 14 = .ok (.iconst 2, 1) := by decide +kernel
theorem dX4_greatestCount_15 : decode cX4_greatestCount 15 = .ok (.aload_n 1, 1) := by decide +kernel
theorem dX4_greatestCount_16 : decode cX4_greatestCount 16 = .ok (.getfield 30, 3) := by decide +kernel
theorem dX4_greatestCount_19 : decode cX4_greatestCount 19 = .ok (.imul, 1) := by decide +kernel
theorem dX4_greatestCount_20 : decode cX4_greatestCount 20 = .ok (.invokevirtual 42, 3) := by decide +kernel
theorem dX4_greatestCount_23 : decode cX4_greatestCount 23 = .ok (.ireturn, 1) := by decide +kernel
set_option maxRecDepth 20000 in
theorem ggX4_narrow_X4_spread : GoodIn wsX4_narrow wsX4_spread := goodIn_r _ [8, 9, 10, 11, 12, 52, 53, 54, 55] (by decide +kernel) (by decide +kernel)
set_option maxRecDepth 20000 in
theorem gX4_narrow_X4_spread : GoodIn wsX4_narrow (wsV RX4 51 RX4 yX4_spread wsX4_spread) := goodIn_app (goodIn_of _ (by decide +kernel)) ggX4_narrow_X4_spread
set_option maxRecDepth 20000 in
theorem ggX4_narrow_X4_leastCount : GoodIn wsX4_narrow wsX4_leastCount := goodIn_r _ [16, 17, 18, 19, 20, 21, 22, 23, 24, 25, 7, 26, 11, 12, 47, 48, 49, 50, 51, 52, 53, 54, 55] (by decide +kernel) (by decide +kernel)
set_option maxRecDepth 20000 in
theorem gX4_narrow_X4_leastCount : GoodIn wsX4_narrow (wsV RX4 58 RX4 yX4_leastCount wsX4_leastCount) := goodIn_app (goodIn_of _ (by decide +kernel)) ggX4_narrow_X4_leastCount
set_option maxRecDepth 20000 in
theorem ggX4_narrow_X4_greatestCount : GoodIn wsX4_narrow wsX4_greatestCount := goodIn_r _ [30, 17, 18, 31, 32, 33, 7, 34, 9, 10, 47, 48, 49, 50, 51, 52, 53, 54, 55] (by decide +kernel) (by decide +kernel)
set_option maxRecDepth 20000 in
theorem gX4_narrow_X4_greatestCount : GoodIn wsX4_narrow (wsV RX4 62 RX4 yX4_greatestCount wsX4_greatestCount) := goodIn_app (goodIn_of _ (by decide +kernel)) ggX4_narrow_X4_greatestCount
set_option maxRecDepth 20000 in
theorem ggX4_narrow_X4_cutByTwo : GoodIn wsX4_narrow wsX4_cutByTwo := goodIn_r _ [38, 17, 18, 13, 14, 15, 7, 16, 19, 20, 21, 22, 23, 24, 25, 26, 11, 12, 27, 28, 29, 30, 31, 32, 33, 34, 9, 10, 39, 40, 41, 42, 47, 48, 49, 50, 51, 52, 53, 54, 55] (by decide +kernel) (by decide +kernel)
set_option maxRecDepth 20000 in
theorem gX4_narrow_X4_cutByTwo : GoodIn wsX4_narrow (wsV RX4 65 RX4 yX4_cutByTwo wsX4_cutByTwo) := goodIn_app (goodIn_of _ (by decide +kernel)) ggX4_narrow_X4_cutByTwo
set_option maxRecDepth 20000 in
theorem ggX4_narrow_X4_isEmpty : GoodIn wsX4_narrow wsX4_isEmpty := goodIn_r _ [46, 9, 12, 11, 10, 52, 53, 54, 55] (by decide +kernel) (by decide +kernel)
set_option maxRecDepth 20000 in
theorem gX4_narrow_X4_isEmpty : GoodIn wsX4_narrow (wsV RX4 69 RX4 yX4_isEmpty wsX4_isEmpty) := goodIn_app (goodIn_of _ (by decide +kernel)) ggX4_narrow_X4_isEmpty
theorem dX4_narrow_0 : decode cX4_narrow 0 = .ok (.aload_n 0, 1) := by decide +kernel
theorem dX4_narrow_1 : decode cX4_narrow 1 = .ok (.aload_n 1, 1) := by decide +kernel
theorem dX4_narrow_2 : decode cX4_narrow 2 = .ok (.getfield 45, 3) := by decide +kernel
theorem dX4_narrow_5 : decode cX4_narrow 5 = .ok (.aload_n 1, 1) := by decide +kernel
theorem dX4_narrow_6 : decode cX4_narrow 6 = .ok (.getfield 48, 3) := by decide +kernel
theorem dX4_narrow_9 : decode cX4_narrow 9 = .ok (.invokevirtual 51, 3) := by decide +kernel
theorem dX4_narrow_12 : decode cX4_narrow 12 = .ok (.iconst 1, 1) := by decide +kernel
theorem dX4_narrow_13 : decode cX4_narrow 13 = .ok (.istore_n 2, 1) := by decide +kernel
theorem dX4_narrow_14 : decode cX4_narrow 14 = .ok (.iconst 0, 1) := by decide +kernel
theorem dX4_narrow_15 : decode cX4_narrow 15 = .ok (.istore_n 3, 1) := by decide +kernel
theorem dX4_narrow_16 : decode cX4_narrow 16 = .ok (.iload_n 3, 1) := by decide +kernel
theorem dX4_narrow_17 : decode cX4_narrow 17 = .ok (.bipush 49, 2) := by decide +kernel
theorem dX4_narrow_19 : decode cX4_narrow 19 = .ok (.if_icmp .gt 86, 3) := by decide +kernel
theorem dX4_narrow_22 : decode cX4_narrow 22 = .ok (.iload_n 2, 1) := by decide +kernel
theorem dX4_narrow_23 : decode cX4_narrow 23 = .ok (.ifCond .eq 82, 3) := by decide +kernel
theorem dX4_narrow_26 : decode cX4_narrow 26 = .ok (.iconst 0, 1) := by decide +kernel
theorem dX4_narrow_27 : decode cX4_narrow 27 = .ok (.istore_n 2, 1) := by decide +kernel
theorem dX4_narrow_28 : decode cX4_narrow 28 = .ok (.iconst 1, 1) := by decide +kernel
theorem dX4_narrow_29 : decode cX4_narrow 29 = .ok (.istore 4, 2) := by decide +kernel
theorem dX4_narrow_31 : decode cX4_narrow 31 = .ok (.iload 4, 2) := by decide +kernel
theorem dX4_narrow_33 : decode cX4_narrow 33 = .ok (.aload_n 1, 1) := by decide +kernel
theorem dX4_narrow_34 : decode cX4_narrow 34 = .ok (.getfield 55, 3) := by decide +kernel
theorem dX4_narrow_37 : decode cX4_narrow 37 = .ok (.if_icmp .ge 62, 3) := by decide +kernel
theorem dX4_narrow_40 : decode cX4_narrow 40 = .ok (.iconst 0, 1) := by decide +kernel
theorem dX4_narrow_41 : decode cX4_narrow 41 = .ok (.istore 5, 2) := by decide +kernel
theorem dX4_narrow_43 : decode cX4_narrow 43 = .ok (.iload 5, 2) := by decide +kernel
theorem dX4_narrow_45 : decode cX4_narrow 45 = .ok (.iload 4, 2) := by decide +kernel
theorem dX4_narrow_47 : decode cX4_narrow 47 = .ok (.if_icmp .ge 46, 3) := by decide +kernel
theorem dX4_narrow_50 : decode cX4_narrow 50 = .ok (.aload_n 0, 1) := by decide +kernel
theorem dX4_narrow_51 : decode cX4_narrow 51 = .ok (.aload_n 1, 1) := by decide +kernel
theorem dX4_narrow_52 : decode cX4_narrow 52 = .ok (.iload 5, 2) := by decide +kernel
theorem dX4_narrow_54 : decode cX4_narrow 54 = .ok (.iload 4, 2) := by decide +kernel
theorem dX4_narrow_56 : decode cX4_narrow 56 = .ok (.invokevirtual 58, 3) := by decide +kernel
theorem dX4_narrow_59 : decode cX4_narrow 59 = .ok (.aload_n 0, 1) := by decide +kernel
theorem dX4_narrow_60 : decode cX4_narrow 60 = .ok (.aload_n 1, 1) := by decide +kernel
theorem dX4_narrow_61 : decode cX4_narrow 61 = .ok (.iload 5, 2) := by decide +kernel
theorem dX4_narrow_63 : decode cX4_narrow 63 = .ok (.iload 4, 2) := by decide +kernel
theorem dX4_narrow_65 : decode cX4_narrow 65 = .ok (.invokevirtual 62, 3) := by decide +kernel
theorem dX4_narrow_68 : decode cX4_narrow 68 = .ok (.if_icmp .le 5, 3) := by decide +kernel
theorem dX4_narrow_71 : decode cX4_narrow 71 = .ok (.iconst 0, 1) := by decide +kernel
theorem dX4_narrow_72 : decode cX4_narrow 72 = .ok (.ireturn, 1) := by decide +kernel
theorem dX4_narrow_73 : decode cX4_narrow 73 = .ok (.aload_n 0, 1) := by decide +kernel
theorem dX4_narrow_74 : decode cX4_narrow 74 = .ok (.aload_n 1, 1) := by decide +kernel
theorem dX4_narrow_75 : decode cX4_narrow 75 = .ok (.iload 5, 2) := by decide +kernel
theorem dX4_narrow_77 : decode cX4_narrow 77 = .ok (.iload 4, 2) := by decide +kernel
theorem dX4_narrow_79 : decode cX4_narrow 79 = .ok (.invokevirtual 65, 3) := by decide +kernel
theorem dX4_narrow_82 : decode cX4_narrow 82 = .ok (.ifCond .eq 5, 3) := by decide +kernel
theorem dX4_narrow_85 : decode cX4_narrow 85 = .ok (.iconst 1, 1) := by decide +kernel
theorem dX4_narrow_86 : decode cX4_narrow 86 = .ok (.istore_n 2, 1) := by decide +kernel
theorem dX4_narrow_87 : decode cX4_narrow 87 = .ok (.iinc 5 1, 3) := by decide +kernel
theorem dX4_narrow_90 : decode cX4_narrow 90 = .ok (.goto (-47), 3) := by decide +kernel
theorem dX4_narrow_93 : decode cX4_narrow 93 = .ok (.iinc 4 1, 3) := by decide +kernel
theorem dX4_narrow_96 : decode cX4_narrow 96 = .ok (.goto (-65), 3) := by decide +kernel
theorem dX4_narrow_99 : decode cX4_narrow 99 = .ok (.iinc 3 1, 3) := by decide +kernel
theorem dX4_narrow_102 : decode cX4_narrow 102 = .ok (.goto (-86), 3) := by decide +kernel
theorem dX4_narrow_105 : decode cX4_narrow 105 = .ok (.aload_n 0, 1) := by decide +kernel
theorem dX4_narrow_106 : decode cX4_narrow 106 = .ok (.invokevirtual 69, 3) := by decide +kernel
theorem dX4_narrow_109 : decode cX4_narrow 109 = .ok (.ifCond .ne 7, 3) := by decide +kernel
theorem dX4_narrow_112 : decode cX4_narrow 112 = .ok (.iconst 1, 1) := by decide +kernel
theorem dX4_narrow_113 : decode cX4_narrow 113 = .ok (.goto 4, 3) := by decide +kernel
theorem dX4_narrow_116 : decode cX4_narrow 116 = .ok (.iconst 0, 1) := by decide +kernel
theorem dX4_narrow_117 : decode cX4_narrow 117 = .ok (.ireturn, 1) := by decide +kernel
set_option maxRecDepth 20000 in
theorem ggX4_cutByTwo_X4_leastCount : GoodIn wsX4_cutByTwo wsX4_leastCount := goodIn_r _ [7, 1, 2, 8, 9, 10, 11, 12, 13, 14, 6, 15, 16, 17, 32, 33, 34, 35, 36, 37, 38, 39, 40] (by decide +kernel) (by decide +kernel)
set_option maxRecDepth 20000 in
theorem gX4_cutByTwo_X4_leastCount : GoodIn wsX4_cutByTwo (wsV RX4 58 RX4 yX4_leastCount wsX4_leastCount) := goodIn_app (goodIn_of _ (by decide +kernel)) ggX4_cutByTwo_X4_leastCount
set_option maxRecDepth 20000 in
theorem ggX4_cutByTwo_X4_greatestCount : GoodIn wsX4_cutByTwo wsX4_greatestCount := goodIn_r _ [21, 1, 2, 22, 23, 24, 6, 25, 26, 27, 32, 33, 34, 35, 36, 37, 38, 39, 40] (by decide +kernel) (by decide +kernel)
set_option maxRecDepth 20000 in
theorem gX4_cutByTwo_X4_greatestCount : GoodIn wsX4_cutByTwo (wsV RX4 62 RX4 yX4_greatestCount wsX4_greatestCount) := goodIn_app (goodIn_of _ (by decide +kernel)) ggX4_cutByTwo_X4_greatestCount
set_option maxRecDepth 20000 in
theorem ggX4_cutByTwo_X4_cut : GoodIn wsX4_cutByTwo wsX4_cut := goodIn_r _ [31, 27, 26, 17, 16, 37, 38, 39, 40] (by decide +kernel) (by decide +kernel)
set_option maxRecDepth 20000 in
theorem gX4_cutByTwo_X4_cut : GoodIn wsX4_cutByTwo (wsV RX4 73 RX4 yX4_cut wsX4_cut) := goodIn_app (goodIn_of _ (by decide +kernel)) ggX4_cutByTwo_X4_cut
theorem dX4_cutByTwo_0 : decode cX4_cutByTwo 0 = .ok (.aload_n 0, 1) := by decide +kernel
theorem dX4_cutByTwo_1 : decode cX4_cutByTwo 1 = .ok (.aload_n 1, 1) := by decide +kernel
theorem dX4_cutByTwo_2 : decode cX4_cutByTwo 2 = .ok (.iload_n 2, 1) := by decide +kernel
theorem dX4_cutByTwo_3 : decode cX4_cutByTwo 3 = .ok (.iload_n 3, 1) := by decide +kernel
theorem dX4_cutByTwo_4 : decode cX4_cutByTwo 4 = .ok (.invokevirtual 58, 3) := by decide +kernel
theorem dX4_cutByTwo_7 : decode cX4_cutByTwo 7 = .ok (.istore 4, 2) := by decide +kernel
theorem dX4_cutByTwo_9 : decode cX4_cutByTwo 9 = .ok (.iload 4, 2) := by decide +kernel
theorem dX4_cutByTwo_11 : decode cX4_cutByTwo 11 = .ok (.aload_n 0, 1) := by decide +kernel
theorem dX4_cutByTwo_12 : decode cX4_cutByTwo 12 = .ok (.aload_n 1, 1) := by decide +kernel
theorem dX4_cutByTwo_13 : decode cX4_cutByTwo 13 = .ok (.iload_n 2, 1) := by decide +kernel
theorem dX4_cutByTwo_14 : decode cX4_cutByTwo 14 = .ok (.iload_n 3, 1) := by decide +kernel
theorem dX4_cutByTwo_15 : decode cX4_cutByTwo 15 = .ok (.invokevirtual 62, 3) := by decide +kernel
theorem dX4_cutByTwo_18 : decode cX4_cutByTwo 18 = .ok (.if_icmp .eq 5, 3) := by decide +kernel
theorem dX4_cutByTwo_21 : decode cX4_cutByTwo 21 = .ok (.iconst 0, 1) := by decide +kernel
theorem dX4_cutByTwo_22 : decode cX4_cutByTwo 22 = .ok (.ireturn, 1) := by decide +kernel
theorem dX4_cutByTwo_23 : decode cX4_cutByTwo 23 = .ok (.aload_n 0, 1) := by decide +kernel
theorem dX4_cutByTwo_24 : decode cX4_cutByTwo 24 = .ok (.aload_n 1, 1) := by decide +kernel
theorem dX4_cutByTwo_25 : decode cX4_cutByTwo 25 = .ok (.getfield 24, 3) := by decide +kernel
theorem dX4_cutByTwo_28 : decode cX4_cutByTwo 28 = .ok (.iload_n 3, 1) := by decide +kernel
theorem dX4_cutByTwo_29 : decode cX4_cutByTwo 29 = .ok (.iaload, 1) := by decide +kernel
theorem dX4_cutByTwo_30 : decode cX4_cutByTwo 30 = .ok (.aload_n 1, 1) := by decide +kernel
theorem dX4_cutByTwo_31 : decode cX4_cutByTwo 31 = .ok (.getfield 24, 3) := by decide +kernel
theorem dX4_cutByTwo_34 : decode cX4_cutByTwo 34 = .ok (.iload_n 2, 1) := by decide +kernel
theorem dX4_cutByTwo_35 : decode cX4_cutByTwo 35 = .ok (.iaload, 1) := by decide +kernel
theorem dX4_cutByTwo_36 : decode cX4_cutByTwo 36 = .ok (.isub, 1) := by decide +kernel
theorem dX4_cutByTwo_37 : decode cX4_cutByTwo 37 = .ok (.iconst 2, 1) := by decide +kernel
theorem dX4_cutByTwo_38 : decode cX4_cutByTwo 38 = .ok (.aload_n 1, 1) := by decide +kernel
theorem dX4_cutByTwo_39 : decode cX4_cutByTwo 39 = .ok (.getfield 30, 3) := by decide +kernel
theorem dX4_cutByTwo_42 : decode cX4_cutByTwo 42 = .ok (.imul, 1) := by decide +kernel
theorem dX4_cutByTwo_43 : decode cX4_cutByTwo 43 = .ok (.iload 4, 2) := by decide +kernel
theorem dX4_cutByTwo_45 : decode cX4_cutByTwo 45 = .ok (.invokevirtual 73, 3) := by decide +kernel
theorem dX4_cutByTwo_48 : decode cX4_cutByTwo 48 = .ok (.ireturn, 1) := by decide +kernel
set_option maxRecDepth 20000 in
theorem ggX4_part_X0_part : GoodIn wsX4_part wsX0_part := goodIn_r _ [8, 9, 10, 11, 12, 13, 14, 7, 15, 16] (by decide +kernel) (by decide +kernel)
set_option maxRecDepth 20000 in
theorem gX4_part_X0_part : GoodIn wsX4_part (va_wsS RX4 77 yX0_part wsX0_part) := goodIn_app (goodIn_of _ (by decide +kernel)) ggX4_part_X0_part
theorem dX4_part_0 : decode cX4_part 0 = .ok (.iload_n 1, 1) := by decide +kernel
theorem dX4_part_1 : decode cX4_part 1 = .ok (.iconst 2, 1) := by decide +kernel
theorem dX4_part_2 : decode cX4_part 2 = .ok (.if_icmp .ge 18, 3) := by decide +kernel
theorem dX4_part_5 : decode cX4_part 5 = .ok (.aload_n 0, 1) := by decide +kernel
theorem dX4_part_6 : decode cX4_part 6 = .ok (.getfield 9, 3) := by decide +kernel
theorem dX4_part_9 : decode cX4_part 9 = .ok (.aload_n 0, 1) := by decide +kernel
theorem dX4_part_10 : decode cX4_part 10 = .ok (.getfield 15, 3) := by decide +kernel
theorem dX4_part_13 : decode cX4_part 13 = .ok (.iload_n 1, 1) := by decide +kernel
theorem dX4_part_14 : decode cX4_part 14 = .ok (.invokestatic 77, 3) := by decide +kernel
theorem dX4_part_17 : decode cX4_part 17 = .ok (.goto 17, 3) := by decide +kernel
theorem dX4_part_20 : decode cX4_part 20 = .ok (.aload_n 0, 1) := by decide +kernel
theorem dX4_part_21 : decode cX4_part 21 = .ok (.getfield 18, 3) := by decide +kernel
theorem dX4_part_24 : decode cX4_part 24 = .ok (.aload_n 0, 1) := by decide +kernel
theorem dX4_part_25 : decode cX4_part 25 = .ok (.getfield 21, 3) := by decide +kernel
theorem dX4_part_28 : decode cX4_part 28 = .ok (.iload_n 1, 1) := by decide +kernel
theorem dX4_part_29 : decode cX4_part 29 = .ok (.iconst 2, 1) := by decide +kernel
theorem dX4_part_30 : decode cX4_part 30 = .ok (.isub, 1) := by decide +kernel
theorem dX4_part_31 : decode cX4_part 31 = .ok (.invokestatic 77, 3) := by decide +kernel
theorem dX4_part_34 : decode cX4_part 34 = .ok (.ireturn, 1) := by decide +kernel
theorem dX5_init_0 : decode cX5_init 0 = .ok (.aload_n 0, 1) := by decide +kernel
theorem dX5_init_1 : decode cX5_init 1 = .ok (.invokespecial 3, 3) := by decide +kernel
theorem dX5_init_4 : decode cX5_init 4 = .ok (.aload_n 0, 1) := by decide +kernel
theorem dX5_init_5 : decode cX5_init 5 = .ok (.bipush 100, 2) := by decide +kernel
theorem dX5_init_7 : decode cX5_init 7 = .ok (.newarray .char, 2) := by decide +kernel
theorem dX5_init_9 : decode cX5_init 9 = .ok (.putfield 9, 3) := by decide +kernel
theorem dX5_init_12 : decode cX5_init 12 = .ok (.return_, 1) := by decide +kernel
theorem dX5_put_0 : decode cX5_put 0 = .ok (.aload_n 0, 1) := by decide +kernel
theorem dX5_put_1 : decode cX5_put 1 = .ok (.getfield 15, 3) := by decide +kernel
theorem dX5_put_4 : decode cX5_put 4 = .ok (.bipush 100, 2) := by decide +kernel
theorem dX5_put_6 : decode cX5_put 6 = .ok (.if_icmp .lt 6, 3) := by decide +kernel
theorem dX5_put_9 : decode cX5_put 9 = .ok (.bipush (-3), 2) := by decide +kernel
theorem dX5_put_11 : decode cX5_put 11 = .ok (.ireturn, 1) := by decide +kernel
theorem dX5_put_12 : decode cX5_put 12 = .ok (.aload_n 0, 1) := by decide +kernel
theorem dX5_put_13 : decode cX5_put 13 = .ok (.getfield 9, 3) := by decide +kernel
theorem dX5_put_16 : decode cX5_put 16 = .ok (.aload_n 0, 1) := by decide +kernel
theorem dX5_put_17 : decode cX5_put 17 = .ok (.getfield 15, 3) := by decide +kernel
theorem dX5_put_20 : decode cX5_put 20 = .ok (.iload_n 1, 1) := by decide +kernel
theorem dX5_put_21 : decode cX5_put 21 = .ok (.i2c, 1) := by decide +kernel
theorem dX5_put_22 : decode cX5_put 22 = .ok (.castore, 1) := by decide +kernel
theorem dX5_put_23 : decode cX5_put 23 = .ok (.aload_n 0, 1) := by decide +kernel
theorem dX5_put_24 : decode cX5_put 24 = .ok (.dup, 1) := by decide +kernel
theorem dX5_put_25 : decode cX5_put 25 = .ok (.getfield 15, 3) := by decide +kernel
theorem dX5_put_28 : decode cX5_put 28 = .ok (.iconst 1, 1) := by decide +kernel
theorem dX5_put_29 : decode cX5_put 29 = .ok (.iadd, 1) := by decide +kernel
theorem dX5_put_30 : decode cX5_put 30 = .ok (.putfield 15, 3) := by decide +kernel
theorem dX5_put_33 : decode cX5_put 33 = .ok (.aload_n 0, 1) := by decide +kernel
theorem dX5_put_34 : decode cX5_put 34 = .ok (.getfield 15, 3) := by decide +kernel
theorem dX5_put_37 : decode cX5_put 37 = .ok (.ireturn, 1) := by decide +kernel
theorem dX5_wipe_0 : decode cX5_wipe 0 = .ok (.aload_n 0, 1) := by decide +kernel
theorem dX5_wipe_1 : decode cX5_wipe 1 = .ok (.getfield 15, 3) := by decide +kernel
theorem dX5_wipe_4 : decode cX5_wipe 4 = .ok (.istore_n 1, 1) := by decide +kernel
theorem dX5_wipe_5 : decode cX5_wipe 5 = .ok (.aload_n 0, 1) := by decide +kernel
theorem dX5_wipe_6 : decode cX5_wipe 6 = .ok (.iconst 0, 1) := by decide +kernel
theorem dX5_wipe_7 : decode cX5_wipe 7 = .ok (.putfield 15, 3) := by decide +kernel
theorem dX5_wipe_10 : decode cX5_wipe 10 = .ok (.iload_n 1, 1) := by decide +kernel
theorem dX5_wipe_11 : decode cX5_wipe 11 = .ok (.ireturn, 1) := by decide +kernel
set_option maxRecDepth 20000 in
theorem ggX5_read_X1_reset : GoodIn wsX5_read wsX1_reset := goodIn_r _ [10, 11, 12, 13, 14, 67, 68, 69, 70, 71] (by decide +kernel) (by decide +kernel)
set_option maxRecDepth 20000 in
theorem gX5_read_X1_reset : GoodIn wsX5_read (wsV RX5 19 RX1 yX1_reset wsX1_reset) := goodIn_app (goodIn_of _ (by decide +kernel)) ggX5_read_X1_reset
set_option maxRecDepth 20000 in
theorem ggX5_read_X5_lastOfToken : GoodIn wsX5_read wsX5_lastOfToken := goodIn_r _ [19, 4, 20, 21, 22, 18, 23, 5, 62, 63, 64, 65, 66] (by decide +kernel) (by decide +kernel)
set_option maxRecDepth 20000 in
theorem gX5_read_X5_lastOfToken : GoodIn wsX5_read (wsV RX5 34 RX5 yX5_lastOfToken wsX5_lastOfToken) := goodIn_app (goodIn_of _ (by decide +kernel)) ggX5_read_X5_lastOfToken
set_option maxRecDepth 20000 in
theorem ggX5_read_X5_valueOfToken : GoodIn wsX5_read wsX5_valueOfToken := goodIn_r _ [27, 5, 20, 21, 22, 18, 23, 62, 63, 64, 65, 66] (by decide +kernel) (by decide +kernel)
set_option maxRecDepth 20000 in
theorem gX5_read_X5_valueOfToken : GoodIn wsX5_read (wsV RX5 38 RX5 yX5_valueOfToken wsX5_valueOfToken) := goodIn_app (goodIn_of _ (by decide +kernel)) ggX5_read_X5_valueOfToken
set_option maxRecDepth 20000 in
theorem ggX5_read_X5_takes : GoodIn wsX5_read wsX5_takes := goodIn_r _ [31, 1, 32, 33, 34, 3, 35, 36, 37, 18, 38, 2, 39, 40, 41, 42, 43, 44, 45, 46, 47, 48, 49, 50, 51, 52, 53, 54, 55, 9, 56, 11, 57, 58, 59, 60, 61, 62, 63, 64, 65, 66, 67, 68, 69, 70, 71] (by decide +kernel) (by decide +kernel)
set_option maxRecDepth 20000 in
theorem gX5_read_X5_takes : GoodIn wsX5_read (wsV RX5 42 RX5 yX5_takes wsX5_takes) := goodIn_app (goodIn_of _ (by decide +kernel)) ggX5_read_X5_takes
theorem dX5_read_0 : decode cX5_read 0 = .ok (.aload_n 1, 1) := by decide +kernel
theorem dX5_read_1 : decode cX5_read 1 = .ok (.invokevirtual 19, 3) := by decide +kernel
theorem dX5_read_4 : decode cX5_read 4 = .ok (.aload_n 0, 1) := by decide +kernel
theorem dX5_read_5 : decode cX5_read 5 = .ok (.iconst 0, 1) := by decide +kernel
theorem dX5_read_6 : decode cX5_read 6 = .ok (.putfield 24, 3) := by decide +kernel
theorem dX5_read_9 : decode cX5_read 9 = .ok (.aload_n 0, 1) := by decide +kernel
theorem dX5_read_10 : decode cX5_read 10 = .ok (.iconst 0, 1) := by decide +kernel
theorem dX5_read_11 : decode cX5_read 11 = .ok (.putfield 27, 3) := by decide +kernel
theorem dX5_read_14 : decode cX5_read 14 = .ok (.aload_n 0, 1) := by decide +kernel
theorem dX5_read_15 : decode cX5_read 15 = .ok (.iconst 0, 1) := by decide +kernel
theorem dX5_read_16 : decode cX5_read 16 = .ok (.putfield 31, 3) := by decide +kernel
theorem dX5_read_19 : decode cX5_read 19 = .ok (.iconst (-1), 1) := by decide +kernel
theorem dX5_read_20 : decode cX5_read 20 = .ok (.istore_n 2, 1) := by decide +kernel
theorem dX5_read_21 : decode cX5_read 21 = .ok (.iconst 0, 1) := by decide +kernel
theorem dX5_read_22 : decode cX5_read 22 = .ok (.istore_n 3, 1) := by decide +kernel
theorem dX5_read_23 : decode cX5_read 23 = .ok (.iload_n 3, 1) := by decide +kernel
theorem dX5_read_24 : decode cX5_read 24 = .ok (.aload_n 0, 1) := by decide +kernel
theorem dX5_read_25 : decode cX5_read 25 = .ok (.getfield 15, 3) := by decide +kernel
theorem dX5_read_28 : decode cX5_read 28 = .ok (.if_icmp .ge 56, 3) := by decide +kernel
theorem dX5_read_31 : decode cX5_read 31 = .ok (.iload_n 3, 1) := by decide +kernel
theorem dX5_read_32 : decode cX5_read 32 = .ok (.iload_n 2, 1) := by decide +kernel
theorem dX5_read_33 : decode cX5_read 33 = .ok (.if_icmp .le 45, 3) := by decide +kernel
theorem dX5_read_36 : decode cX5_read 36 = .ok (.aload_n 0, 1) := by decide +kernel
theorem dX5_read_37 : decode cX5_read 37 = .ok (.getfield 9, 3) := by decide +kernel
theorem dX5_read_40 : decode cX5_read 40 = .ok (.iload_n 3, 1) := by decide +kernel
theorem dX5_read_41 : decode cX5_read 41 = .ok (.caload, 1) := by decide +kernel
theorem dX5_read_42 : decode cX5_read 42 = .ok (.bipush 32, 2) := by decide +kernel
theorem dX5_read_44 : decode cX5_read 44 = .ok (.if_icmp .eq 34, 3) := by decide +kernel
theorem dX5_read_47 : decode cX5_read 47 = .ok (.aload_n 0, 1) := by decide +kernel
theorem dX5_read_48 : decode cX5_read 48 = .ok (.iload_n 3, 1) := by decide +kernel
theorem dX5_read_49 : decode cX5_read 49 = .ok (.invokevirtual 34, 3) := by decide +kernel
theorem dX5_read_52 : decode cX5_read 52 = .ok (.istore_n 2, 1) := by decide +kernel
theorem dX5_read_53 : decode cX5_read 53 = .ok (.aload_n 0, 1) := by decide +kernel
theorem dX5_read_54 : decode cX5_read 54 = .ok (.aload_n 0, 1) := by decide +kernel
theorem dX5_read_55 : decode cX5_read 55 = .ok (.getfield 9, 3) := by decide +kernel
theorem dX5_read_58 : decode cX5_read 58 = .ok (.iload_n 3, 1) := by decide +kernel
theorem dX5_read_59 : decode cX5_read 59 = .ok (.caload, 1) := by decide +kernel
theorem dX5_read_60 : decode cX5_read 60 = .ok (.aload_n 0, 1) := by decide +kernel
theorem dX5_read_61 : decode cX5_read 61 = .ok (.iload_n 3, 1) := by decide +kernel
theorem dX5_read_62 : decode cX5_read 62 = .ok (.iload_n 2, 1) := by decide +kernel
theorem dX5_read_63 : decode cX5_read 63 = .ok (.invokevirtual 38, 3) := by decide +kernel
theorem dX5_read_66 : decode cX5_read 66 = .ok (.aload_n 1, 1) := by decide +kernel
theorem dX5_read_67 : decode cX5_read 67 = .ok (.invokevirtual 42, 3) := by decide +kernel
theorem dX5_read_70 : decode cX5_read 70 = .ok (.ifCond .ne 8, 3) := by decide +kernel
theorem dX5_read_73 : decode cX5_read 73 = .ok (.bipush (-10), 2) := by decide +kernel
theorem dX5_read_75 : decode cX5_read 75 = .ok (.iload_n 3, 1) := by decide +kernel
theorem dX5_read_76 : decode cX5_read 76 = .ok (.isub, 1) := by decide +kernel
theorem dX5_read_77 : decode cX5_read 77 = .ok (.ireturn, 1) := by decide +kernel
theorem dX5_read_78 : decode cX5_read 78 = .ok (.iinc 3 1, 3) := by decide +kernel
theorem dX5_read_81 : decode cX5_read 81 = .ok (.goto (-58), 3) := by decide +kernel
theorem dX5_read_84 : decode cX5_read 84 = .ok (.aload_n 0, 1) := by decide +kernel
theorem dX5_read_85 : decode cX5_read 85 = .ok (.getfield 24, 3) := by decide +kernel
theorem dX5_read_88 : decode cX5_read 88 = .ok (.ifCond .ne 10, 3) := by decide +kernel
theorem dX5_read_91 : decode cX5_read 91 = .ok (.aload_n 0, 1) := by decide +kernel
theorem dX5_read_92 : decode cX5_read 92 = .ok (.getfield 31, 3) := by decide +kernel
theorem dX5_read_95 : decode cX5_read 95 = .ok (.goto 10, 3) := by decide +kernel
theorem dX5_read_98 : decode cX5_read 98 = .ok (.bipush (-10), 2) := by decide +kernel
theorem dX5_read_100 : decode cX5_read 100 = .ok (.aload_n 0, 1) := by decide +kernel
theorem dX5_read_101 : decode cX5_read 101 = .ok (.getfield 15, 3) := by decide +kernel
theorem dX5_read_104 : decode cX5_read 104 = .ok (.isub, 1) := by decide +kernel
theorem dX5_read_105 : decode cX5_read 105 = .ok (.ireturn, 1) := by decide +kernel
theorem dX5_isDigit_0 : decode cX5_isDigit 0 = .ok (.aload_n 0, 1) := by decide +kernel
theorem dX5_isDigit_1 : decode cX5_isDigit 1 = .ok (.getfield 9, 3) := by decide +kernel
theorem dX5_isDigit_4 : decode cX5_isDigit 4 = .ok (.iload_n 1, 1) := by decide +kernel
theorem dX5_isDigit_5 : decode cX5_isDigit 5 = .ok (.caload, 1) := by decide +kernel
theorem dX5_isDigit_6 : decode cX5_isDigit 6 = .ok (.bipush 48, 2) := by decide +kernel
theorem dX5_isDigit_8 : decode cX5_isDigit 8 = .ok (.if_icmp .lt 18, 3) := by decide +kernel
theorem dX5_isDigit_11 : decode cX5_isDigit 11 = .ok (.aload_n 0, 1) := by decide +kernel
theorem dX5_isDigit_12 : decode cX5_isDigit 12 = .ok (.getfield 9, 3) := by decide +kernel
theorem dX5_isDigit_15 : decode cX5_isDigit 15 = .ok (.iload_n 1, 1) := by decide +kernel
theorem dX5_isDigit_16 : decode cX5_isDigit 16 = .ok (.caload, 1) := by decide +kernel
theorem dX5_isDigit_17 : decode cX5_isDigit 17 = .ok (.bipush 57, 2) := by decide +kernel
theorem dX5_isDigit_19 : decode cX5_isDigit 19 = .ok (.if_icmp .gt 7, 3) := by decide +kernel
theorem dX5_isDigit_22 : decode cX5_isDigit 22 = .ok (.iconst 1, 1) := by decide +kernel
theorem dX5_isDigit_23 : decode cX5_isDigit 23 = .ok (.goto 4, 3) := by decide +kernel
theorem dX5_isDigit_26 : decode cX5_isDigit 26 = .ok (.iconst 0, 1) := by decide +kernel
theorem dX5_isDigit_27 : decode cX5_isDigit 27 = .ok (.ireturn, 1) := by decide +kernel
set_option maxRecDepth 20000 in
theorem ggX5_lastOfToken_X5_isDigit : GoodIn wsX5_lastOfToken wsX5_isDigit := goodIn_r _ [6, 7, 8, 9, 10, 11, 12] (by decide +kernel) (by decide +kernel)
set_option maxRecDepth 20000 in
theorem gX5_lastOfToken_X5_isDigit : GoodIn wsX5_lastOfToken (wsV RX5 46 RX5 yX5_isDigit wsX5_isDigit) := goodIn_app (goodIn_of _ (by decide +kernel)) ggX5_lastOfToken_X5_isDigit
theorem dX5_lastOfToken_0 : decode cX5_lastOfToken 0 = .ok (.iload_n 1, 1) := by decide +kernel
theorem dX5_lastOfToken_1 : decode cX5_lastOfToken 1 = .ok (.istore_n 2, 1) := by decide +kernel
theorem dX5_lastOfToken_2 : decode cX5_lastOfToken 2 = .ok (.iload_n 1, 1) := by decide +kernel
theorem dX5_lastOfToken_3 : decode cX5_lastOfToken 3 = .ok (.iconst 1, 1) := by decide +kernel
theorem dX5_lastOfToken_4 : decode cX5_lastOfToken 4 = .ok (.iadd, 1) := by decide +kernel
theorem dX5_lastOfToken_5 : decode cX5_lastOfToken 5 = .ok (.istore_n 3, 1) := by decide +kernel
theorem dX5_lastOfToken_6 : decode cX5_lastOfToken 6 = .ok (.iload_n 3, 1) := by decide +kernel
theorem dX5_lastOfToken_7 : decode cX5_lastOfToken 7 = .ok (.aload_n 0, 1) := by decide +kernel
theorem dX5_lastOfToken_8 : decode cX5_lastOfToken 8 = .ok (.getfield 15, 3) := by decide +kernel
theorem dX5_lastOfToken_11 : decode cX5_lastOfToken 11 = .ok (.if_icmp .ge 27, 3) := by decide +kernel
theorem dX5_lastOfToken_14 : decode cX5_lastOfToken 14 = .ok (.aload_n 0, 1) := by decide +kernel
theorem dX5_lastOfToken_15 : decode cX5_lastOfToken 15 = .ok (.iload_n 1, 1) := by decide +kernel
theorem dX5_lastOfToken_16 : decode cX5_lastOfToken 16 = .ok (.invokevirtual 46, 3) := by decide +kernel
theorem dX5_lastOfToken_19 : decode cX5_lastOfToken 19 = .ok (.ifCond .eq 19, 3) := by decide +kernel
theorem dX5_lastOfToken_22 : decode cX5_lastOfToken 22 = .ok (.aload_n 0, 1) := by decide +kernel
theorem dX5_lastOfToken_23 : decode cX5_lastOfToken 23 = .ok (.iload_n 3, 1) := by decide +kernel
theorem dX5_lastOfToken_24 : decode cX5_lastOfToken 24 = .ok (.invokevirtual 46, 3) := by decide +kernel
theorem dX5_lastOfToken_27 : decode cX5_lastOfToken 27 = .ok (.ifCond .eq 11, 3) := by decide +kernel
theorem dX5_lastOfToken_30 : decode cX5_lastOfToken 30 = .ok (.iload_n 3, 1) := by decide +kernel
theorem dX5_lastOfToken_31 : decode cX5_lastOfToken 31 = .ok (.istore_n 2, 1) := by decide +kernel
theorem dX5_lastOfToken_32 : decode cX5_lastOfToken 32 = .ok (.iinc 3 1, 3) := by decide +kernel
theorem dX5_lastOfToken_35 : decode cX5_lastOfToken 35 = .ok (.goto (-29), 3) := by decide +kernel
theorem dX5_lastOfToken_38 : decode cX5_lastOfToken 38 = .ok (.iload_n 2, 1) := by decide +kernel
theorem dX5_lastOfToken_39 : decode cX5_lastOfToken 39 = .ok (.ireturn, 1) := by decide +kernel
set_option maxRecDepth 20000 in
theorem ggX5_valueOfToken_X5_isDigit : GoodIn wsX5_valueOfToken wsX5_isDigit := goodIn_r _ [6, 1, 7, 8, 9, 10, 11] (by decide +kernel) (by decide +kernel)
set_option maxRecDepth 20000 in
theorem gX5_valueOfToken_X5_isDigit : GoodIn wsX5_valueOfToken (wsV RX5 46 RX5 yX5_isDigit wsX5_isDigit) := goodIn_app (goodIn_of _ (by decide +kernel)) ggX5_valueOfToken_X5_isDigit
theorem dX5_valueOfToken_0 : decode cX5_valueOfToken 0 = .ok (.aload_n 0, 1) := by decide +kernel
theorem dX5_valueOfToken_1 : decode cX5_valueOfToken 1 = .ok (.iload_n 1, 1) := by decide +kernel
theorem dX5_valueOfToken_2 : decode cX5_valueOfToken 2 = .ok (.invokevirtual 46, 3) := by decide +kernel
theorem dX5_valueOfToken_5 : decode cX5_valueOfToken 5 = .ok (.ifCond .eq 19, 3) := by decide +kernel
theorem dX5_valueOfToken_8 : decode cX5_valueOfToken 8 = .ok (.aload_n 0, 1) := by decide +kernel
theorem dX5_valueOfToken_9 : decode cX5_valueOfToken 9 = .ok (.getfield 9, 3) := by decide +kernel
theorem dX5_valueOfToken_12 : decode cX5_valueOfToken 12 = .ok (.iload_n 1, 1) := by decide +kernel
theorem dX5_valueOfToken_13 : decode cX5_valueOfToken 13 = .ok (.caload, 1) := by decide +kernel
theorem dX5_valueOfToken_14 : decode cX5_valueOfToken 14 = .ok (.bipush 48, 2) := by decide +kernel
theorem dX5_valueOfToken_16 : decode cX5_valueOfToken 16 = .ok (.if_icmp .ne 10, 3) := by decide +kernel
theorem dX5_valueOfToken_19 : decode cX5_valueOfToken 19 = .ok (.iload_n 2, 1) := by decide +kernel
theorem dX5_valueOfToken_20 : decode cX5_valueOfToken 20 = .ok (.iload_n 1, 1) := by decide +kernel
theorem dX5_valueOfToken_21 : decode cX5_valueOfToken 21 = .ok (.if_icmp .le 5, 3) := by decide +kernel
theorem dX5_valueOfToken_24 : decode cX5_valueOfToken 24 = .ok (.iconst (-1), 1) := by decide +kernel
theorem dX5_valueOfToken_25 : decode cX5_valueOfToken 25 = .ok (.ireturn, 1) := by decide +kernel
theorem dX5_valueOfToken_26 : decode cX5_valueOfToken 26 = .ok (.iconst 0, 1) := by decide +kernel
theorem dX5_valueOfToken_27 : decode cX5_valueOfToken 27 = .ok (.istore_n 3, 1) := by decide +kernel
theorem dX5_valueOfToken_28 : decode cX5_valueOfToken 28 = .ok (.iload_n 1, 1) := by decide +kernel
theorem dX5_valueOfToken_29 : decode cX5_valueOfToken 29 = .ok (.istore 4, 2) := by decide +kernel
theorem dX5_valueOfToken_31 : decode cX5_valueOfToken 31 = .ok (.iload 4, 2) := by decide +kernel
theorem dX5_valueOfToken_33 : decode cX5_valueOfToken 33 = .ok (.iload_n 2, 1) := by decide +kernel
theorem dX5_valueOfToken_34 : decode cX5_valueOfToken 34 = .ok (.if_icmp .gt 32, 3) := by decide +kernel
theorem dX5_valueOfToken_37 : decode cX5_valueOfToken 37 = .ok (.iload_n 3, 1) := by decide +kernel
theorem dX5_valueOfToken_38 : decode cX5_valueOfToken 38 = .ok (.sipush 10000, 3) := by decide +kernel
theorem dX5_valueOfToken_41 : decode cX5_valueOfToken 41 = .ok (.if_icmp .ge 25, 3) := by decide +kernel
theorem dX5_valueOfToken_44 : decode cX5_valueOfToken 44 = .ok (.iload_n 3, 1) := by decide +kernel
theorem dX5_valueOfToken_45 : decode cX5_valueOfToken 45 = .ok (.bipush 10, 2) := by decide +kernel
theorem dX5_valueOfToken_47 : decode cX5_valueOfToken 47 = .ok (.imul, 1) := by decide +kernel
theorem dX5_valueOfToken_48 : decode cX5_valueOfToken 48 = .ok (.aload_n 0, 1) := by decide +kernel
theorem dX5_valueOfToken_49 : decode cX5_valueOfToken 49 = .ok (.getfield 9, 3) := by decide +kernel
theorem dX5_valueOfToken_52 : decode cX5_valueOfToken 52 = .ok (.iload 4, 2) := by decide +kernel
theorem dX5_valueOfToken_54 : decode cX5_valueOfToken 54 = .ok (.caload, 1) := by decide +kernel
theorem dX5_valueOfToken_55 : decode cX5_valueOfToken 55 = .ok (.bipush 48, 2) := by decide +kernel
theorem dX5_valueOfToken_57 : decode cX5_valueOfToken 57 = .ok (.isub, 1) := by decide +kernel
theorem dX5_valueOfToken_58 : decode cX5_valueOfToken 58 = .ok (.iadd, 1) := by decide +kernel
theorem dX5_valueOfToken_59 : decode cX5_valueOfToken 59 = .ok (.istore_n 3, 1) := by decide +kernel
theorem dX5_valueOfToken_60 : decode cX5_valueOfToken 60 = .ok (.iinc 4 1, 3) := by decide +kernel
theorem dX5_valueOfToken_63 : decode cX5_valueOfToken 63 = .ok (.goto (-32), 3) := by decide +kernel
theorem dX5_valueOfToken_66 : decode cX5_valueOfToken 66 = .ok (.iload_n 3, 1) := by decide +kernel
theorem dX5_valueOfToken_67 : decode cX5_valueOfToken 67 = .ok (.sipush 10000, 3) := by decide +kernel
theorem dX5_valueOfToken_70 : decode cX5_valueOfToken 70 = .ok (.if_icmp .ge 7, 3) := by decide +kernel
theorem dX5_valueOfToken_73 : decode cX5_valueOfToken 73 = .ok (.iload_n 3, 1) := by decide +kernel
theorem dX5_valueOfToken_74 : decode cX5_valueOfToken 74 = .ok (.goto 4, 3) := by decide +kernel
theorem dX5_valueOfToken_77 : decode cX5_valueOfToken 77 = .ok (.iconst (-1), 1) := by decide +kernel
theorem dX5_valueOfToken_78 : decode cX5_valueOfToken 78 = .ok (.ireturn, 1) := by decide +kernel
set_option maxRecDepth 20000 in
theorem ggX5_takes_X5_takesItem : GoodIn wsX5_takes wsX5_takesItem := goodIn_r _ [10, 11, 1, 12, 37, 38, 39, 40, 41, 42, 43, 44, 45, 46] (by decide +kernel) (by decide +kernel)
set_option maxRecDepth 20000 in
theorem gX5_takes_X5_takesItem : GoodIn wsX5_takes (wsV RX5 50 RX5 yX5_takesItem wsX5_takesItem) := goodIn_app (goodIn_of _ (by decide +kernel)) ggX5_takes_X5_takesItem
set_option maxRecDepth 20000 in
theorem ggX5_takes_X6_isLow : GoodIn wsX5_takes wsX6_isLow := goodIn_r _ [15] (by decide +kernel) (by decide +kernel)
set_option maxRecDepth 20000 in
theorem gX5_takes_X6_isLow_n57 : GoodIn wsX5_takes (wsX6_isLow) := ggX5_takes_X6_isLow
set_option maxRecDepth 20000 in
theorem ggX5_takes_X6_isHigh : GoodIn wsX5_takes wsX6_isHigh := goodIn_r _ [17] (by decide +kernel) (by decide +kernel)
set_option maxRecDepth 20000 in
theorem gX5_takes_X6_isHigh_n63 : GoodIn wsX5_takes (wsX6_isHigh) := ggX5_takes_X6_isHigh
set_option maxRecDepth 20000 in
theorem ggX5_takes_X6_isSlack : GoodIn wsX5_takes wsX6_isSlack := goodIn_r _ [19] (by decide +kernel) (by decide +kernel)
set_option maxRecDepth 20000 in
theorem gX5_takes_X6_isSlack_n70 : GoodIn wsX5_takes (wsX6_isSlack) := ggX5_takes_X6_isSlack
set_option maxRecDepth 20000 in
theorem ggX5_takes_X5_takesTime : GoodIn wsX5_takes wsX5_takesTime := goodIn_r _ [23, 1, 24, 14, 25, 26, 27, 28, 29, 30, 31, 32, 33, 34, 35, 36, 37, 38, 39, 40, 41, 42, 43, 44, 45, 46] (by decide +kernel) (by decide +kernel)
set_option maxRecDepth 20000 in
theorem gX5_takes_X5_takesTime : GoodIn wsX5_takes (wsV RX5 73 RX5 yX5_takesTime wsX5_takesTime) := goodIn_app (goodIn_of _ (by decide +kernel)) ggX5_takes_X5_takesTime
theorem dX5_takes_0 : decode cX5_takes 0 = .ok (.aload_n 0, 1) := by decide +kernel
theorem dX5_takes_1 : decode cX5_takes 1 = .ok (.getfield 24, 3) := by decide +kernel
theorem dX5_takes_4 : decode cX5_takes 4 = .ok (.tableswitch 103 0 4 #[36, 43, 58, 77, 96], 36) := by decide +kernel
theorem dX5_takes_40 : decode cX5_takes 40 = .ok (.aload_n 0, 1) := by decide +kernel
theorem dX5_takes_41 : decode cX5_takes 41 = .ok (.iload_n 1, 1) := by decide +kernel
theorem dX5_takes_42 : decode cX5_takes 42 = .ok (.aload_n 3, 1) := by decide +kernel
theorem dX5_takes_43 : decode cX5_takes 43 = .ok (.invokevirtual 50, 3) := by decide +kernel
theorem dX5_takes_46 : decode cX5_takes 46 = .ok (.ireturn, 1) := by decide +kernel
theorem dX5_takes_47 : decode cX5_takes 47 = .ok (.aload_n 3, 1) := by decide +kernel
theorem dX5_takes_48 : decode cX5_takes 48 = .ok (.iload_n 2, 1) := by decide +kernel
theorem dX5_takes_49 : decode cX5_takes 49 = .ok (.putfield 54, 3) := by decide +kernel
theorem dX5_takes_52 : decode cX5_takes 52 = .ok (.aload_n 0, 1) := by decide +kernel
theorem dX5_takes_53 : decode cX5_takes 53 = .ok (.iconst 2, 1) := by decide +kernel
theorem dX5_takes_54 : decode cX5_takes 54 = .ok (.putfield 24, 3) := by decide +kernel
theorem dX5_takes_57 : decode cX5_takes 57 = .ok (.iload_n 2, 1) := by decide +kernel
theorem dX5_takes_58 : decode cX5_takes 58 = .ok (.invokestatic 57, 3) := by decide +kernel
theorem dX5_takes_61 : decode cX5_takes 61 = .ok (.ireturn, 1) := by decide +kernel
theorem dX5_takes_62 : decode cX5_takes 62 = .ok (.aload_n 3, 1) := by decide +kernel
theorem dX5_takes_63 : decode cX5_takes 63 = .ok (.iload_n 2, 1) := by decide +kernel
theorem dX5_takes_64 : decode cX5_takes 64 = .ok (.putfield 60, 3) := by decide +kernel
theorem dX5_takes_67 : decode cX5_takes 67 = .ok (.aload_n 0, 1) := by decide +kernel
theorem dX5_takes_68 : decode cX5_takes 68 = .ok (.iconst 3, 1) := by decide +kernel
theorem dX5_takes_69 : decode cX5_takes 69 = .ok (.putfield 24, 3) := by decide +kernel
theorem dX5_takes_72 : decode cX5_takes 72 = .ok (.aload_n 3, 1) := by decide +kernel
theorem dX5_takes_73 : decode cX5_takes 73 = .ok (.getfield 54, 3) := by decide +kernel
theorem dX5_takes_76 : decode cX5_takes 76 = .ok (.iload_n 2, 1) := by decide +kernel
theorem dX5_takes_77 : decode cX5_takes 77 = .ok (.invokestatic 63, 3) := by decide +kernel
theorem dX5_takes_80 : decode cX5_takes 80 = .ok (.ireturn, 1) := by decide +kernel
theorem dX5_takes_81 : decode cX5_takes 81 = .ok (.aload_n 3, 1) := by decide +kernel
theorem dX5_takes_82 : decode cX5_takes 82 = .ok (.iload_n 2, 1) := by decide +kernel
theorem dX5_takes_83 : decode cX5_takes 83 = .ok (.putfield 67, 3) := by decide +kernel
theorem dX5_takes_86 : decode cX5_takes 86 = .ok (.aload_n 0, 1) := by decide +kernel
theorem dX5_takes_87 : decode cX5_takes 87 = .ok (.iconst 5, 1) := by decide +kernel
theorem dX5_takes_88 : decode cX5_takes 88 = .ok (.putfield 24, 3) := by decide +kernel
theorem dX5_takes_91 : decode cX5_takes 91 = .ok (.aload_n 3, 1) := by decide +kernel
theorem dX5_takes_92 : decode cX5_takes 92 = .ok (.getfield 54, 3) := by decide +kernel
theorem dX5_takes_95 : decode cX5_takes 95 = .ok (.iload_n 2, 1) := by decide +kernel
theorem dX5_takes_96 : decode cX5_takes 96 = .ok (.invokestatic 70, 3) := by decide +kernel
theorem dX5_takes_99 : decode cX5_takes 99 = .ok (.ireturn, 1) := by decide +kernel
theorem dX5_takes_100 : decode cX5_takes 100 = .ok (.aload_n 0, 1) := by decide +kernel
theorem dX5_takes_101 : decode cX5_takes 101 = .ok (.iload_n 2, 1) := by decide +kernel
theorem dX5_takes_102 : decode cX5_takes 102 = .ok (.aload_n 3, 1) := by decide +kernel
theorem dX5_takes_103 : decode cX5_takes 103 = .ok (.invokevirtual 73, 3) := by decide +kernel
theorem dX5_takes_106 : decode cX5_takes 106 = .ok (.ireturn, 1) := by decide +kernel
theorem dX5_takes_107 : decode cX5_takes 107 = .ok (.aload_n 0, 1) := by decide +kernel
theorem dX5_takes_108 : decode cX5_takes 108 = .ok (.dup, 1) := by decide +kernel
theorem dX5_takes_109 : decode cX5_takes 109 = .ok (.getfield 31, 3) := by decide +kernel
theorem dX5_takes_112 : decode cX5_takes 112 = .ok (.iconst 1, 1) := by decide +kernel
theorem dX5_takes_113 : decode cX5_takes 113 = .ok (.iadd, 1) := by decide +kernel
theorem dX5_takes_114 : decode cX5_takes 114 = .ok (.putfield 31, 3) := by decide +kernel
theorem dX5_takes_117 : decode cX5_takes 117 = .ok (.aload_n 0, 1) := by decide +kernel
theorem dX5_takes_118 : decode cX5_takes 118 = .ok (.iconst 0, 1) := by decide +kernel
theorem dX5_takes_119 : decode cX5_takes 119 = .ok (.putfield 24, 3) := by decide +kernel
theorem dX5_takes_122 : decode cX5_takes 122 = .ok (.iload_n 1, 1) := by decide +kernel
theorem dX5_takes_123 : decode cX5_takes 123 = .ok (.bipush 59, 2) := by decide +kernel
theorem dX5_takes_125 : decode cX5_takes 125 = .ok (.if_icmp .ne 7, 3) := by decide +kernel
theorem dX5_takes_128 : decode cX5_takes 128 = .ok (.iconst 1, 1) := by decide +kernel
theorem dX5_takes_129 : decode cX5_takes 129 = .ok (.goto 4, 3) := by decide +kernel
theorem dX5_takes_132 : decode cX5_takes 132 = .ok (.iconst 0, 1) := by decide +kernel
theorem dX5_takes_133 : decode cX5_takes 133 = .ok (.ireturn, 1) := by decide +kernel
theorem dX5_takesItem_0 : decode cX5_takesItem 0 = .ok (.iload_n 1, 1) := by decide +kernel
theorem dX5_takesItem_1 : decode cX5_takesItem 1 = .ok (.bipush 98, 2) := by decide +kernel
theorem dX5_takesItem_3 : decode cX5_takesItem 3 = .ok (.if_icmp .ne 22, 3) := by decide +kernel
theorem dX5_takesItem_6 : decode cX5_takesItem 6 = .ok (.aload_n 0, 1) := by decide +kernel
theorem dX5_takesItem_7 : decode cX5_takesItem 7 = .ok (.getfield 27, 3) := by decide +kernel
theorem dX5_takesItem_10 : decode cX5_takesItem 10 = .ok (.ifCond .ne 15, 3) := by decide +kernel
theorem dX5_takesItem_13 : decode cX5_takesItem 13 = .ok (.aload_n 0, 1) := by decide +kernel
theorem dX5_takesItem_14 : decode cX5_takesItem 14 = .ok (.iconst 1, 1) := by decide +kernel
theorem dX5_takesItem_15 : decode cX5_takesItem 15 = .ok (.putfield 27, 3) := by decide +kernel
theorem dX5_takesItem_18 : decode cX5_takesItem 18 = .ok (.aload_n 0, 1) := by decide +kernel
theorem dX5_takesItem_19 : decode cX5_takesItem 19 = .ok (.iconst 1, 1) := by decide +kernel
theorem dX5_takesItem_20 : decode cX5_takesItem 20 = .ok (.putfield 24, 3) := by decide +kernel
theorem dX5_takesItem_23 : decode cX5_takesItem 23 = .ok (.iconst 1, 1) := by decide +kernel
theorem dX5_takesItem_24 : decode cX5_takesItem 24 = .ok (.ireturn, 1) := by decide +kernel
theorem dX5_takesItem_25 : decode cX5_takesItem 25 = .ok (.iload_n 1, 1) := by decide +kernel
theorem dX5_takesItem_26 : decode cX5_takesItem 26 = .ok (.bipush 116, 2) := by decide +kernel
theorem dX5_takesItem_28 : decode cX5_takesItem 28 = .ok (.if_icmp .ne 19, 3) := by decide +kernel
theorem dX5_takesItem_31 : decode cX5_takesItem 31 = .ok (.aload_n 2, 1) := by decide +kernel
theorem dX5_takesItem_32 : decode cX5_takesItem 32 = .ok (.getfield 77, 3) := by decide +kernel
theorem dX5_takesItem_35 : decode cX5_takesItem 35 = .ok (.bipush 7, 2) := by decide +kernel
theorem dX5_takesItem_37 : decode cX5_takesItem 37 = .ok (.if_icmp .ge 10, 3) := by decide +kernel
theorem dX5_takesItem_40 : decode cX5_takesItem 40 = .ok (.aload_n 0, 1) := by decide +kernel
theorem dX5_takesItem_41 : decode cX5_takesItem 41 = .ok (.iconst 4, 1) := by decide +kernel
theorem dX5_takesItem_42 : decode cX5_takesItem 42 = .ok (.putfield 24, 3) := by decide +kernel
theorem dX5_takesItem_45 : decode cX5_takesItem 45 = .ok (.iconst 1, 1) := by decide +kernel
theorem dX5_takesItem_46 : decode cX5_takesItem 46 = .ok (.ireturn, 1) := by decide +kernel
theorem dX5_takesItem_47 : decode cX5_takesItem 47 = .ok (.iconst 0, 1) := by decide +kernel
theorem dX5_takesItem_48 : decode cX5_takesItem 48 = .ok (.ireturn, 1) := by decide +kernel
set_option maxRecDepth 20000 in
theorem ggX5_takesTime_X6_isTime : GoodIn wsX5_takesTime wsX6_isTime := goodIn_r _ [4] (by decide +kernel) (by decide +kernel)
set_option maxRecDepth 20000 in
theorem gX5_takesTime_X6_isTime_n80 : GoodIn wsX5_takesTime (wsX6_isTime) := ggX5_takesTime_X6_isTime
set_option maxRecDepth 20000 in
theorem ggX5_takesTime_X1_hears : GoodIn wsX5_takesTime wsX1_hears := goodIn_r _ [9, 10, 11, 21, 22, 23, 24, 25] (by decide +kernel) (by decide +kernel)
set_option maxRecDepth 20000 in
theorem gX5_takesTime_X1_hears : GoodIn wsX5_takesTime (wsV RX5 83 RX1 yX1_hears wsX1_hears) := goodIn_app (goodIn_of _ (by decide +kernel)) ggX5_takesTime_X1_hears
set_option maxRecDepth 20000 in
theorem ggX5_takesTime_X1_place : GoodIn wsX5_takesTime wsX1_place := goodIn_r _ [15, 10, 11, 21, 22, 23, 24, 25] (by decide +kernel) (by decide +kernel)
set_option maxRecDepth 20000 in
theorem gX5_takesTime_X1_place : GoodIn wsX5_takesTime (wsV RX5 86 RX1 yX1_place wsX1_place) := goodIn_app (goodIn_of _ (by decide +kernel)) ggX5_takesTime_X1_place
theorem dX5_takesTime_0 : decode cX5_takesTime 0 = .ok (.iload_n 1, 1) := by decide +kernel
theorem dX5_takesTime_1 : decode cX5_takesTime 1 = .ok (.invokestatic 80, 3) := by decide +kernel
theorem dX5_takesTime_4 : decode cX5_takesTime 4 = .ok (.ifCond .eq 11, 3) := by decide +kernel
theorem dX5_takesTime_7 : decode cX5_takesTime 7 = .ok (.aload_n 2, 1) := by decide +kernel
theorem dX5_takesTime_8 : decode cX5_takesTime 8 = .ok (.iload_n 1, 1) := by decide +kernel
theorem dX5_takesTime_9 : decode cX5_takesTime 9 = .ok (.invokevirtual 83, 3) := by decide +kernel
theorem dX5_takesTime_12 : decode cX5_takesTime 12 = .ok (.ifCond .eq 5, 3) := by decide +kernel
theorem dX5_takesTime_15 : decode cX5_takesTime 15 = .ok (.iconst 0, 1) := by decide +kernel
theorem dX5_takesTime_16 : decode cX5_takesTime 16 = .ok (.ireturn, 1) := by decide +kernel
theorem dX5_takesTime_17 : decode cX5_takesTime 17 = .ok (.aload_n 2, 1) := by decide +kernel
theorem dX5_takesTime_18 : decode cX5_takesTime 18 = .ok (.iload_n 1, 1) := by decide +kernel
theorem dX5_takesTime_19 : decode cX5_takesTime 19 = .ok (.invokevirtual 86, 3) := by decide +kernel
theorem dX5_takesTime_22 : decode cX5_takesTime 22 = .ok (.pop, 1) := by decide +kernel
theorem dX5_takesTime_23 : decode cX5_takesTime 23 = .ok (.aload_n 0, 1) := by decide +kernel
theorem dX5_takesTime_24 : decode cX5_takesTime 24 = .ok (.iconst 5, 1) := by decide +kernel
theorem dX5_takesTime_25 : decode cX5_takesTime 25 = .ok (.putfield 24, 3) := by decide +kernel
theorem dX5_takesTime_28 : decode cX5_takesTime 28 = .ok (.iconst 1, 1) := by decide +kernel
theorem dX5_takesTime_29 : decode cX5_takesTime 29 = .ok (.ireturn, 1) := by decide +kernel
set_option maxRecDepth 20000 in
theorem ggX6_init_X1_init : GoodIn wsX6_init wsX1_init := goodIn_r _ [33, 34, 2, 3, 28, 35, 36, 37, 38, 6, 39, 40, 41, 42, 43, 72, 73, 74, 75, 76] (by decide +kernel) (by decide +kernel)
set_option maxRecDepth 20000 in
theorem gX6_init_X1_init : GoodIn wsX6_init (wsX1_init) := ggX6_init_X1_init
set_option maxRecDepth 20000 in
theorem ggX6_init_X3_init : GoodIn wsX6_init wsX3_init := goodIn_r _ [46, 47, 2, 3, 48, 49, 5, 6, 50, 32, 33, 34, 28, 35, 36, 37, 38, 39, 40, 41, 42, 43, 87, 88, 89, 72, 73, 74, 75, 76] (by decide +kernel) (by decide +kernel)
set_option maxRecDepth 20000 in
theorem gX6_init_X3_init : GoodIn wsX6_init (wsX3_init) := ggX6_init_X3_init
set_option maxRecDepth 20000 in
theorem ggX6_init_X5_init : GoodIn wsX6_init wsX5_init := goodIn_r _ [52, 53, 2, 3, 54, 55, 90, 91, 92, 93, 94] (by decide +kernel) (by decide +kernel)
set_option maxRecDepth 20000 in
theorem gX6_init_X5_init_n36 : GoodIn wsX6_init (wsX5_init) := ggX6_init_X5_init
set_option maxRecDepth 20000 in
theorem ggX6_init_X2_init : GoodIn wsX6_init wsX2_init := goodIn_r _ [58, 59, 2, 3, 28, 60, 61, 62, 63, 64, 25, 26, 65, 66, 67, 68, 69, 70, 71, 95, 96, 97, 98, 99, 100, 101, 102, 103, 104, 105, 106] (by decide +kernel) (by decide +kernel)
set_option maxRecDepth 20000 in
theorem gX6_init_X2_init : GoodIn wsX6_init (wsX2_init) := ggX6_init_X2_init
set_option maxRecDepth 20000 in
theorem ggX6_init_X4_init : GoodIn wsX6_init wsX4_init := goodIn_r _ [66, 67, 2, 3, 68, 69, 70, 71, 103, 104, 105, 106] (by decide +kernel) (by decide +kernel)
set_option maxRecDepth 20000 in
theorem gX6_init_X4_init_n50 : GoodIn wsX6_init (wsX4_init) := ggX6_init_X4_init
theorem dX6_init_0 : decode cX6_init 0 = .ok (.aload_n 0, 1) := by decide +kernel
theorem dX6_init_1 : decode cX6_init 1 = .ok (.invokespecial 1, 3) := by decide +kernel
theorem dX6_init_4 : decode cX6_init 4 = .ok (.aload_n 0, 1) := by decide +kernel
theorem dX6_init_5 : decode cX6_init 5 = .ok (.new 7, 3) := by decide +kernel
theorem dX6_init_8 : decode cX6_init 8 = .ok (.dup, 1) := by decide +kernel
theorem dX6_init_9 : decode cX6_init 9 = .ok (.invokespecial 9, 3) := by decide +kernel
theorem dX6_init_12 : decode cX6_init 12 = .ok (.putfield 10, 3) := by decide +kernel
theorem dX6_init_15 : decode cX6_init 15 = .ok (.aload_n 0, 1) := by decide +kernel
theorem dX6_init_16 : decode cX6_init 16 = .ok (.new 7, 3) := by decide +kernel
theorem dX6_init_19 : decode cX6_init 19 = .ok (.dup, 1) := by decide +kernel
theorem dX6_init_20 : decode cX6_init 20 = .ok (.invokespecial 9, 3) := by decide +kernel
theorem dX6_init_23 : decode cX6_init 23 = .ok (.putfield 16, 3) := by decide +kernel
theorem dX6_init_26 : decode cX6_init 26 = .ok (.aload_n 0, 1) := by decide +kernel
theorem dX6_init_27 : decode cX6_init 27 = .ok (.new 19, 3) := by decide +kernel
theorem dX6_init_30 : decode cX6_init 30 = .ok (.dup, 1) := by decide +kernel
theorem dX6_init_31 : decode cX6_init 31 = .ok (.invokespecial 21, 3) := by decide +kernel
theorem dX6_init_34 : decode cX6_init 34 = .ok (.putfield 22, 3) := by decide +kernel
theorem dX6_init_37 : decode cX6_init 37 = .ok (.aload_n 0, 1) := by decide +kernel
theorem dX6_init_38 : decode cX6_init 38 = .ok (.iconst 2, 1) := by decide +kernel
theorem dX6_init_39 : decode cX6_init 39 = .ok (.anewarray 7, 3) := by decide +kernel
theorem dX6_init_42 : decode cX6_init 42 = .ok (.putfield 26, 3) := by decide +kernel
theorem dX6_init_45 : decode cX6_init 45 = .ok (.aload_n 0, 1) := by decide +kernel
theorem dX6_init_46 : decode cX6_init 46 = .ok (.iconst 2, 1) := by decide +kernel
theorem dX6_init_47 : decode cX6_init 47 = .ok (.newarray .boolean, 2) := by decide +kernel
theorem dX6_init_49 : decode cX6_init 49 = .ok (.putfield 30, 3) := by decide +kernel
theorem dX6_init_52 : decode cX6_init 52 = .ok (.aload_n 0, 1) := by decide +kernel
theorem dX6_init_53 : decode cX6_init 53 = .ok (.new 34, 3) := by decide +kernel
theorem dX6_init_56 : decode cX6_init 56 = .ok (.dup, 1) := by decide +kernel
theorem dX6_init_57 : decode cX6_init 57 = .ok (.invokespecial 36, 3) := by decide +kernel
theorem dX6_init_60 : decode cX6_init 60 = .ok (.putfield 37, 3) := by decide +kernel
theorem dX6_init_63 : decode cX6_init 63 = .ok (.aload_n 0, 1) := by decide +kernel
theorem dX6_init_64 : decode cX6_init 64 = .ok (.new 41, 3) := by decide +kernel
theorem dX6_init_67 : decode cX6_init 67 = .ok (.dup, 1) := by decide +kernel
theorem dX6_init_68 : decode cX6_init 68 = .ok (.invokespecial 43, 3) := by decide +kernel
theorem dX6_init_71 : decode cX6_init 71 = .ok (.putfield 44, 3) := by decide +kernel
theorem dX6_init_74 : decode cX6_init 74 = .ok (.aload_n 0, 1) := by decide +kernel
theorem dX6_init_75 : decode cX6_init 75 = .ok (.new 48, 3) := by decide +kernel
theorem dX6_init_78 : decode cX6_init 78 = .ok (.dup, 1) := by decide +kernel
theorem dX6_init_79 : decode cX6_init 79 = .ok (.invokespecial 50, 3) := by decide +kernel
theorem dX6_init_82 : decode cX6_init 82 = .ok (.putfield 51, 3) := by decide +kernel
theorem dX6_init_85 : decode cX6_init 85 = .ok (.aload_n 0, 1) := by decide +kernel
theorem dX6_init_86 : decode cX6_init 86 = .ok (.bipush 7, 2) := by decide +kernel
theorem dX6_init_88 : decode cX6_init 88 = .ok (.newarray .int, 2) := by decide +kernel
theorem dX6_init_90 : decode cX6_init 90 = .ok (.putfield 55, 3) := by decide +kernel
theorem dX6_init_93 : decode cX6_init 93 = .ok (.aload_n 0, 1) := by decide +kernel
theorem dX6_init_94 : decode cX6_init 94 = .ok (.bipush 100, 2) := by decide +kernel
theorem dX6_init_96 : decode cX6_init 96 = .ok (.newarray .int, 2) := by decide +kernel
theorem dX6_init_98 : decode cX6_init 98 = .ok (.putfield 59, 3) := by decide +kernel
theorem dX6_init_101 : decode cX6_init 101 = .ok (.iconst 0, 1) := by decide +kernel
theorem dX6_init_102 : decode cX6_init 102 = .ok (.istore_n 1, 1) := by decide +kernel
theorem dX6_init_103 : decode cX6_init 103 = .ok (.iload_n 1, 1) := by decide +kernel
theorem dX6_init_104 : decode cX6_init 104 = .ok (.aload_n 0, 1) := by decide +kernel
theorem dX6_init_105 : decode cX6_init 105 = .ok (.getfield 26, 3) := by decide +kernel
theorem dX6_init_108 : decode cX6_init 108 = .ok (.arraylength, 1) := by decide +kernel
theorem dX6_init_109 : decode cX6_init 109 = .ok (.if_icmp .ge 22, 3) := by decide +kernel
theorem dX6_init_112 : decode cX6_init 112 = .ok (.aload_n 0, 1) := by decide +kernel
theorem dX6_init_113 : decode cX6_init 113 = .ok (.getfield 26, 3) := by decide +kernel
theorem dX6_init_116 : decode cX6_init 116 = .ok (.iload_n 1, 1) := by decide +kernel
theorem dX6_init_117 : decode cX6_init 117 = .ok (.new 7, 3) := by decide +kernel
theorem dX6_init_120 : decode cX6_init 120 = .ok (.dup, 1) := by decide +kernel
theorem dX6_init_121 : decode cX6_init 121 = .ok (.invokespecial 9, 3) := by decide +kernel
theorem dX6_init_124 : decode cX6_init 124 = .ok (.aastore, 1) := by decide +kernel
theorem dX6_init_125 : decode cX6_init 125 = .ok (.iinc 1 1, 3) := by decide +kernel
theorem dX6_init_128 : decode cX6_init 128 = .ok (.goto (-25), 3) := by decide +kernel
theorem dX6_init_131 : decode cX6_init 131 = .ok (.return_, 1) := by decide +kernel
set_option maxRecDepth 20000 in
theorem ggX6_type_X5_put : GoodIn wsX6_type wsX5_put := goodIn_r _ [6, 7, 8, 19, 20, 21, 22, 23] (by decide +kernel) (by decide +kernel)
set_option maxRecDepth 20000 in
theorem gX6_type_X5_put : GoodIn wsX6_type (wsV RX6 62 RX5 yX5_put wsX5_put) := goodIn_app (goodIn_of _ (by decide +kernel)) ggX6_type_X5_put
theorem dX6_type_0 : decode cX6_type 0 = .ok (.iload_n 1, 1) := by decide +kernel
theorem dX6_type_1 : decode cX6_type 1 = .ok (.ifCond .lt 10, 3) := by decide +kernel
theorem dX6_type_4 : decode cX6_type 4 = .ok (.iload_n 1, 1) := by decide +kernel
theorem dX6_type_5 : decode cX6_type 5 = .ok (.sipush 255, 3) := by decide +kernel
theorem dX6_type_8 : decode cX6_type 8 = .ok (.if_icmp .le 5, 3) := by decide +kernel
theorem dX6_type_11 : decode cX6_type 11 = .ok (.iconst (-1), 1) := by decide +kernel
theorem dX6_type_12 : decode cX6_type 12 = .ok (.ireturn, 1) := by decide +kernel
theorem dX6_type_13 : decode cX6_type 13 = .ok (.aload_n 0, 1) := by decide +kernel
theorem dX6_type_14 : decode cX6_type 14 = .ok (.getfield 37, 3) := by decide +kernel
theorem dX6_type_17 : decode cX6_type 17 = .ok (.iload_n 1, 1) := by decide +kernel
theorem dX6_type_18 : decode cX6_type 18 = .ok (.invokevirtual 62, 3) := by decide +kernel
theorem dX6_type_21 : decode cX6_type 21 = .ok (.ireturn, 1) := by decide +kernel
set_option maxRecDepth 20000 in
theorem ggX6_clear_X5_wipe : GoodIn wsX6_clear wsX5_wipe := goodIn_r _ [6, 7, 18, 19, 20, 21, 22] (by decide +kernel) (by decide +kernel)
set_option maxRecDepth 20000 in
theorem gX6_clear_X5_wipe : GoodIn wsX6_clear (wsV RX6 66 RX5 yX5_wipe wsX5_wipe) := goodIn_app (goodIn_of _ (by decide +kernel)) ggX6_clear_X5_wipe
theorem dX6_clear_0 : decode cX6_clear 0 = .ok (.aload_n 0, 1) := by decide +kernel
theorem dX6_clear_1 : decode cX6_clear 1 = .ok (.getfield 37, 3) := by decide +kernel
theorem dX6_clear_4 : decode cX6_clear 4 = .ok (.invokevirtual 66, 3) := by decide +kernel
theorem dX6_clear_7 : decode cX6_clear 7 = .ok (.ireturn, 1) := by decide +kernel
set_option maxRecDepth 20000 in
theorem ggX6_heard_X5_read : GoodIn wsX6_heard wsX5_read := goodIn_r _ [10, 11, 12, 13, 14, 15, 16, 17, 18, 19, 20, 21, 22, 23, 24, 25, 26, 27, 9, 28, 29, 30, 31, 32, 33, 34, 35, 36, 37, 38, 39, 40, 41, 42, 43, 44, 45, 46, 47, 48, 49, 50, 51, 52, 53, 54, 55, 56, 57, 58, 59, 60, 61, 62, 63, 64, 65, 66, 67, 68, 69, 70, 95, 96, 97, 98, 99, 100, 101, 102, 103, 104] (by decide +kernel) (by decide +kernel)
set_option maxRecDepth 20000 in
theorem gX6_heard_X5_read : GoodIn wsX6_heard (wsV RX6 70 RX5 yX5_read wsX5_read) := goodIn_app (goodIn_of _ (by decide +kernel)) ggX6_heard_X5_read
set_option maxRecDepth 20000 in
theorem ggX6_heard_X1_take : GoodIn wsX6_heard wsX1_take := goodIn_r _ [74, 66, 21, 22, 23, 24, 100, 101, 102, 103, 104] (by decide +kernel) (by decide +kernel)
set_option maxRecDepth 20000 in
theorem gX6_heard_X1_take : GoodIn wsX6_heard (wsV RX6 74 RX1 yX1_take wsX1_take) := goodIn_app (goodIn_of _ (by decide +kernel)) ggX6_heard_X1_take
set_option maxRecDepth 20000 in
theorem ggX6_heard_X3_forget : GoodIn wsX6_heard wsX3_forget := goodIn_r _ [79, 80, 105, 106, 107] (by decide +kernel) (by decide +kernel)
set_option maxRecDepth 20000 in
theorem gX6_heard_X3_forget : GoodIn wsX6_heard (wsV RX6 78 RX3 yX3_forget wsX3_forget) := goodIn_app (goodIn_of _ (by decide +kernel)) ggX6_heard_X3_forget
set_option maxRecDepth 20000 in
theorem ggX6_heard_X5_wipe : GoodIn wsX6_heard wsX5_wipe := goodIn_r _ [84, 14, 95, 96, 97, 98, 99] (by decide +kernel) (by decide +kernel)
set_option maxRecDepth 20000 in
theorem gX6_heard_X5_wipe : GoodIn wsX6_heard (wsV RX6 66 RX5 yX5_wipe wsX5_wipe) := goodIn_app (goodIn_of _ (by decide +kernel)) ggX6_heard_X5_wipe
theorem dX6_heard_0 : decode cX6_heard 0 = .ok (.aload_n 0, 1) := by decide +kernel
theorem dX6_heard_1 : decode cX6_heard 1 = .ok (.getfield 37, 3) := by decide +kernel
theorem dX6_heard_4 : decode cX6_heard 4 = .ok (.aload_n 0, 1) := by decide +kernel
theorem dX6_heard_5 : decode cX6_heard 5 = .ok (.getfield 16, 3) := by decide +kernel
theorem dX6_heard_8 : decode cX6_heard 8 = .ok (.invokevirtual 70, 3) := by decide +kernel
theorem dX6_heard_11 : decode cX6_heard 11 = .ok (.istore_n 1, 1) := by decide +kernel
theorem dX6_heard_12 : decode cX6_heard 12 = .ok (.iload_n 1, 1) := by decide +kernel
theorem dX6_heard_13 : decode cX6_heard 13 = .ok (.ifCond .ge 5, 3) := by decide +kernel
theorem dX6_heard_16 : decode cX6_heard 16 = .ok (.iload_n 1, 1) := by decide +kernel
theorem dX6_heard_17 : decode cX6_heard 17 = .ok (.ireturn, 1) := by decide +kernel
theorem dX6_heard_18 : decode cX6_heard 18 = .ok (.aload_n 0, 1) := by decide +kernel
theorem dX6_heard_19 : decode cX6_heard 19 = .ok (.getfield 10, 3) := by decide +kernel
theorem dX6_heard_22 : decode cX6_heard 22 = .ok (.aload_n 0, 1) := by decide +kernel
theorem dX6_heard_23 : decode cX6_heard 23 = .ok (.getfield 16, 3) := by decide +kernel
theorem dX6_heard_26 : decode cX6_heard 26 = .ok (.invokevirtual 74, 3) := by decide +kernel
theorem dX6_heard_29 : decode cX6_heard 29 = .ok (.aload_n 0, 1) := by decide +kernel
theorem dX6_heard_30 : decode cX6_heard 30 = .ok (.getfield 22, 3) := by decide +kernel
theorem dX6_heard_33 : decode cX6_heard 33 = .ok (.invokevirtual 78, 3) := by decide +kernel
theorem dX6_heard_36 : decode cX6_heard 36 = .ok (.iconst 0, 1) := by decide +kernel
theorem dX6_heard_37 : decode cX6_heard 37 = .ok (.istore_n 2, 1) := by decide +kernel
theorem dX6_heard_38 : decode cX6_heard 38 = .ok (.iload_n 2, 1) := by decide +kernel
theorem dX6_heard_39 : decode cX6_heard 39 = .ok (.aload_n 0, 1) := by decide +kernel
theorem dX6_heard_40 : decode cX6_heard 40 = .ok (.getfield 30, 3) := by decide +kernel
theorem dX6_heard_43 : decode cX6_heard 43 = .ok (.arraylength, 1) := by decide +kernel
theorem dX6_heard_44 : decode cX6_heard 44 = .ok (.if_icmp .ge 16, 3) := by decide +kernel
theorem dX6_heard_47 : decode cX6_heard 47 = .ok (.aload_n 0, 1) := by decide +kernel
theorem dX6_heard_48 : decode cX6_heard 48 = .ok (.getfield 30, 3) := by decide +kernel
theorem dX6_heard_51 : decode cX6_heard 51 = .ok (.iload_n 2, 1) := by decide +kernel
theorem dX6_heard_52 : decode cX6_heard 52 = .ok (.iconst 0, 1) := by decide +kernel
theorem dX6_heard_53 : decode cX6_heard 53 = .ok (.bastore, 1) := by decide +kernel
theorem dX6_heard_54 : decode cX6_heard 54 = .ok (.iinc 2 1, 3) := by decide +kernel
theorem dX6_heard_57 : decode cX6_heard 57 = .ok (.goto (-19), 3) := by decide +kernel
theorem dX6_heard_60 : decode cX6_heard 60 = .ok (.aload_n 0, 1) := by decide +kernel
theorem dX6_heard_61 : decode cX6_heard 61 = .ok (.getfield 37, 3) := by decide +kernel
theorem dX6_heard_64 : decode cX6_heard 64 = .ok (.invokevirtual 66, 3) := by decide +kernel
theorem dX6_heard_67 : decode cX6_heard 67 = .ok (.pop, 1) := by decide +kernel
theorem dX6_heard_68 : decode cX6_heard 68 = .ok (.iload_n 1, 1) := by decide +kernel
theorem dX6_heard_69 : decode cX6_heard 69 = .ok (.ireturn, 1) := by decide +kernel
set_option maxRecDepth 20000 in
theorem ggX6_time_X1_hasArrival : GoodIn wsX6_time wsX1_hasArrival := goodIn_r _ [7, 8, 19, 20, 21, 22, 23] (by decide +kernel) (by decide +kernel)
set_option maxRecDepth 20000 in
theorem gX6_time_X1_hasArrival : GoodIn wsX6_time (wsV RX6 81 RX1 yX1_hasArrival wsX1_hasArrival) := goodIn_app (goodIn_of _ (by decide +kernel)) ggX6_time_X1_hasArrival
theorem dX6_time_0 : decode cX6_time 0 = .ok (.aload_n 0, 1) := by decide +kernel
theorem dX6_time_1 : decode cX6_time 1 = .ok (.getfield 10, 3) := by decide +kernel
theorem dX6_time_4 : decode cX6_time 4 = .ok (.iload_n 1, 1) := by decide +kernel
theorem dX6_time_5 : decode cX6_time 5 = .ok (.invokevirtual 81, 3) := by decide +kernel
theorem dX6_time_8 : decode cX6_time 8 = .ok (.ifCond .eq 15, 3) := by decide +kernel
theorem dX6_time_11 : decode cX6_time 11 = .ok (.aload_n 0, 1) := by decide +kernel
theorem dX6_time_12 : decode cX6_time 12 = .ok (.getfield 10, 3) := by decide +kernel
theorem dX6_time_15 : decode cX6_time 15 = .ok (.getfield 85, 3) := by decide +kernel
theorem dX6_time_18 : decode cX6_time 18 = .ok (.iload_n 1, 1) := by decide +kernel
theorem dX6_time_19 : decode cX6_time 19 = .ok (.iaload, 1) := by decide +kernel
theorem dX6_time_20 : decode cX6_time 20 = .ok (.goto 4, 3) := by decide +kernel
theorem dX6_time_23 : decode cX6_time 23 = .ok (.iconst (-1), 1) := by decide +kernel
theorem dX6_time_24 : decode cX6_time 24 = .ok (.ireturn, 1) := by decide +kernel
set_option maxRecDepth 20000 in
theorem ggX6_adds_X6_refusesNew : GoodIn wsX6_adds wsX6_refusesNew := goodIn_r _ [7, 2, 8, 9, 10, 6, 11, 12, 13, 14, 15, 16, 17, 18, 42, 43, 44, 45, 46, 47, 48, 49, 50, 51, 52, 53, 54, 55, 56] (by decide +kernel) (by decide +kernel)
set_option maxRecDepth 20000 in
theorem gX6_adds_X6_refusesNew : GoodIn wsX6_adds (wsV RX6 88 RX6 yX6_refusesNew wsX6_refusesNew) := goodIn_app (goodIn_of _ (by decide +kernel)) ggX6_adds_X6_refusesNew
set_option maxRecDepth 20000 in
theorem ggX6_adds_X3_push : GoodIn wsX6_adds wsX3_push := goodIn_r _ [23, 24, 25, 26, 27, 28, 29, 30, 31, 32, 33, 15, 34, 18, 17, 35, 36, 37, 57, 58, 59, 52, 53, 54, 55, 56] (by decide +kernel) (by decide +kernel)
set_option maxRecDepth 20000 in
theorem gX6_adds_X3_push : GoodIn wsX6_adds (wsV RX6 91 RX3 yX3_push wsX3_push) := goodIn_app (goodIn_of _ (by decide +kernel)) ggX6_adds_X3_push
set_option maxRecDepth 20000 in
theorem ggX6_adds_X1_place : GoodIn wsX6_adds wsX1_place := goodIn_r _ [41, 17, 18, 52, 53, 54, 55, 56] (by decide +kernel) (by decide +kernel)
set_option maxRecDepth 20000 in
theorem gX6_adds_X1_place : GoodIn wsX6_adds (wsV RX6 94 RX1 yX1_place wsX1_place) := goodIn_app (goodIn_of _ (by decide +kernel)) ggX6_adds_X1_place
theorem dX6_adds_0 : decode cX6_adds 0 = .ok (.aload_n 0, 1) := by decide +kernel
theorem dX6_adds_1 : decode cX6_adds 1 = .ok (.iload_n 1, 1) := by decide +kernel
theorem dX6_adds_2 : decode cX6_adds 2 = .ok (.invokevirtual 88, 3) := by decide +kernel
theorem dX6_adds_5 : decode cX6_adds 5 = .ok (.istore_n 2, 1) := by decide +kernel
theorem dX6_adds_6 : decode cX6_adds 6 = .ok (.iload_n 2, 1) := by decide +kernel
theorem dX6_adds_7 : decode cX6_adds 7 = .ok (.ifCond .eq 5, 3) := by decide +kernel
theorem dX6_adds_10 : decode cX6_adds 10 = .ok (.iload_n 2, 1) := by decide +kernel
theorem dX6_adds_11 : decode cX6_adds 11 = .ok (.ireturn, 1) := by decide +kernel
theorem dX6_adds_12 : decode cX6_adds 12 = .ok (.aload_n 0, 1) := by decide +kernel
theorem dX6_adds_13 : decode cX6_adds 13 = .ok (.getfield 22, 3) := by decide +kernel
theorem dX6_adds_16 : decode cX6_adds 16 = .ok (.aload_n 0, 1) := by decide +kernel
theorem dX6_adds_17 : decode cX6_adds 17 = .ok (.getfield 10, 3) := by decide +kernel
theorem dX6_adds_20 : decode cX6_adds 20 = .ok (.invokevirtual 91, 3) := by decide +kernel
theorem dX6_adds_23 : decode cX6_adds 23 = .ok (.aload_n 0, 1) := by decide +kernel
theorem dX6_adds_24 : decode cX6_adds 24 = .ok (.getfield 10, 3) := by decide +kernel
theorem dX6_adds_27 : decode cX6_adds 27 = .ok (.iload_n 1, 1) := by decide +kernel
theorem dX6_adds_28 : decode cX6_adds 28 = .ok (.invokevirtual 94, 3) := by decide +kernel
theorem dX6_adds_31 : decode cX6_adds 31 = .ok (.ireturn, 1) := by decide +kernel
set_option maxRecDepth 20000 in
theorem ggX6_strikes_X1_hasArrival : GoodIn wsX6_strikes wsX1_hasArrival := goodIn_r _ [7, 8, 44, 45, 46, 47, 48] (by decide +kernel) (by decide +kernel)
set_option maxRecDepth 20000 in
theorem gX6_strikes_X1_hasArrival : GoodIn wsX6_strikes (wsV RX6 81 RX1 yX1_hasArrival wsX1_hasArrival) := goodIn_app (goodIn_of _ (by decide +kernel)) ggX6_strikes_X1_hasArrival
set_option maxRecDepth 20000 in
theorem ggX6_strikes_X3_push : GoodIn wsX6_strikes wsX3_push := goodIn_r _ [13, 14, 15, 16, 17, 18, 19, 20, 21, 22, 23, 6, 24, 25, 8, 26, 27, 28, 49, 50, 51, 44, 45, 46, 47, 48] (by decide +kernel) (by decide +kernel)
set_option maxRecDepth 20000 in
theorem gX6_strikes_X3_push : GoodIn wsX6_strikes (wsV RX6 91 RX3 yX3_push wsX3_push) := goodIn_app (goodIn_of _ (by decide +kernel)) ggX6_strikes_X3_push
set_option maxRecDepth 20000 in
theorem ggX6_strikes_X1_drop : GoodIn wsX6_strikes wsX1_drop := goodIn_r _ [32, 25, 8, 33, 4, 5, 6, 7, 44, 45, 46, 47, 48] (by decide +kernel) (by decide +kernel)
set_option maxRecDepth 20000 in
theorem gX6_strikes_X1_drop : GoodIn wsX6_strikes (wsV RX6 97 RX1 yX1_drop wsX1_drop) := goodIn_app (goodIn_of _ (by decide +kernel)) ggX6_strikes_X1_drop
theorem dX6_strikes_0 : decode cX6_strikes 0 = .ok (.aload_n 0, 1) := by decide +kernel
theorem dX6_strikes_1 : decode cX6_strikes 1 = .ok (.getfield 10, 3) := by decide +kernel
theorem dX6_strikes_4 : decode cX6_strikes 4 = .ok (.iload_n 1, 1) := by decide +kernel
theorem dX6_strikes_5 : decode cX6_strikes 5 = .ok (.invokevirtual 81, 3) := by decide +kernel
theorem dX6_strikes_8 : decode cX6_strikes 8 = .ok (.ifCond .ne 5, 3) := by decide +kernel
theorem dX6_strikes_11 : decode cX6_strikes 11 = .ok (.iconst (-1), 1) := by decide +kernel
theorem dX6_strikes_12 : decode cX6_strikes 12 = .ok (.ireturn, 1) := by decide +kernel
theorem dX6_strikes_13 : decode cX6_strikes 13 = .ok (.aload_n 0, 1) := by decide +kernel
theorem dX6_strikes_14 : decode cX6_strikes 14 = .ok (.getfield 22, 3) := by decide +kernel
theorem dX6_strikes_17 : decode cX6_strikes 17 = .ok (.aload_n 0, 1) := by decide +kernel
theorem dX6_strikes_18 : decode cX6_strikes 18 = .ok (.getfield 10, 3) := by decide +kernel
theorem dX6_strikes_21 : decode cX6_strikes 21 = .ok (.invokevirtual 91, 3) := by decide +kernel
theorem dX6_strikes_24 : decode cX6_strikes 24 = .ok (.aload_n 0, 1) := by decide +kernel
theorem dX6_strikes_25 : decode cX6_strikes 25 = .ok (.getfield 10, 3) := by decide +kernel
theorem dX6_strikes_28 : decode cX6_strikes 28 = .ok (.iload_n 1, 1) := by decide +kernel
theorem dX6_strikes_29 : decode cX6_strikes 29 = .ok (.invokevirtual 97, 3) := by decide +kernel
theorem dX6_strikes_32 : decode cX6_strikes 32 = .ok (.ireturn, 1) := by decide +kernel
set_option maxRecDepth 20000 in
theorem ggX6_boxes_X6_isLow : GoodIn wsX6_boxes wsX6_isLow := goodIn_r _ [9] (by decide +kernel) (by decide +kernel)
set_option maxRecDepth 20000 in
theorem gX6_boxes_X6_isLow : GoodIn wsX6_boxes (va_wsS RX6 100 yX6_isLow wsX6_isLow) := goodIn_app (goodIn_of _ (by decide +kernel)) ggX6_boxes_X6_isLow
set_option maxRecDepth 20000 in
theorem ggX6_boxes_X6_isHigh : GoodIn wsX6_boxes wsX6_isHigh := goodIn_r _ [12] (by decide +kernel) (by decide +kernel)
set_option maxRecDepth 20000 in
theorem gX6_boxes_X6_isHigh : GoodIn wsX6_boxes (va_wsS RX6 103 yX6_isHigh wsX6_isHigh) := goodIn_app (goodIn_of _ (by decide +kernel)) ggX6_boxes_X6_isHigh
set_option maxRecDepth 20000 in
theorem ggX6_boxes_X6_isSlack : GoodIn wsX6_boxes wsX6_isSlack := goodIn_r _ [15] (by decide +kernel) (by decide +kernel)
set_option maxRecDepth 20000 in
theorem gX6_boxes_X6_isSlack : GoodIn wsX6_boxes (va_wsS RX6 107 yX6_isSlack wsX6_isSlack) := goodIn_app (goodIn_of _ (by decide +kernel)) ggX6_boxes_X6_isSlack
set_option maxRecDepth 20000 in
theorem ggX6_boxes_X3_push : GoodIn wsX6_boxes wsX3_push := goodIn_r _ [20, 21, 22, 23, 24, 25, 26, 27, 28, 29, 30, 31, 32, 33, 34, 35, 36, 37, 130, 131, 132, 125, 126, 127, 128, 129] (by decide +kernel) (by decide +kernel)
set_option maxRecDepth 20000 in
theorem gX6_boxes_X3_push : GoodIn wsX6_boxes (wsV RX6 91 RX3 yX3_push wsX3_push) := goodIn_app (goodIn_of _ (by decide +kernel)) ggX6_boxes_X3_push
set_option maxRecDepth 20000 in
theorem ggX6_boxes_X6_standing : GoodIn wsX6_boxes wsX6_standing := goodIn_r _ [41, 42, 43, 44, 45, 46, 47, 48, 49, 50, 51, 52, 53, 54, 55, 56, 57, 58, 59, 60, 61, 62, 63, 64, 65, 66, 67, 68, 69, 70, 71, 72, 73, 74, 75, 76, 77, 78, 79, 80, 81, 82, 83, 26, 84, 85, 86, 87, 88, 89, 90, 91, 92, 93, 94, 95, 96, 97, 98, 99, 100, 101, 102, 103, 104, 105, 106, 107, 108, 109, 110, 111, 112, 113, 114, 115, 116, 117, 118, 119, 120, 121, 122, 123, 124, 133, 134, 135, 136, 137, 138, 139, 140, 125, 126, 127, 128, 129, 141, 142, 143, 144] (by decide +kernel) (by decide +kernel)
set_option maxRecDepth 20000 in
theorem gX6_boxes_X6_standing : GoodIn wsX6_boxes (wsV RX6 120 RX6 yX6_standing wsX6_standing) := goodIn_app (goodIn_of _ (by decide +kernel)) ggX6_boxes_X6_standing
theorem dX6_boxes_0 : decode cX6_boxes 0 = .ok (.iload_n 1, 1) := by decide +kernel
theorem dX6_boxes_1 : decode cX6_boxes 1 = .ok (.invokestatic 100, 3) := by decide +kernel
theorem dX6_boxes_4 : decode cX6_boxes 4 = .ok (.ifCond .eq 19, 3) := by decide +kernel
theorem dX6_boxes_7 : decode cX6_boxes 7 = .ok (.iload_n 1, 1) := by decide +kernel
theorem dX6_boxes_8 : decode cX6_boxes 8 = .ok (.iload_n 2, 1) := by decide +kernel
theorem dX6_boxes_9 : decode cX6_boxes 9 = .ok (.invokestatic 103, 3) := by decide +kernel
theorem dX6_boxes_12 : decode cX6_boxes 12 = .ok (.ifCond .eq 11, 3) := by decide +kernel
theorem dX6_boxes_15 : decode cX6_boxes 15 = .ok (.iload_n 1, 1) := by decide +kernel
theorem dX6_boxes_16 : decode cX6_boxes 16 = .ok (.iload_n 3, 1) := by decide +kernel
theorem dX6_boxes_17 : decode cX6_boxes 17 = .ok (.invokestatic 107, 3) := by decide +kernel
theorem dX6_boxes_20 : decode cX6_boxes 20 = .ok (.ifCond .ne 5, 3) := by decide +kernel
theorem dX6_boxes_23 : decode cX6_boxes 23 = .ok (.iconst (-1), 1) := by decide +kernel
theorem dX6_boxes_24 : decode cX6_boxes 24 = .ok (.ireturn, 1) := by decide +kernel
theorem dX6_boxes_25 : decode cX6_boxes 25 = .ok (.aload_n 0, 1) := by decide +kernel
theorem dX6_boxes_26 : decode cX6_boxes 26 = .ok (.getfield 22, 3) := by decide +kernel
theorem dX6_boxes_29 : decode cX6_boxes 29 = .ok (.aload_n 0, 1) := by decide +kernel
theorem dX6_boxes_30 : decode cX6_boxes 30 = .ok (.getfield 10, 3) := by decide +kernel
theorem dX6_boxes_33 : decode cX6_boxes 33 = .ok (.invokevirtual 91, 3) := by decide +kernel
theorem dX6_boxes_36 : decode cX6_boxes 36 = .ok (.aload_n 0, 1) := by decide +kernel
theorem dX6_boxes_37 : decode cX6_boxes 37 = .ok (.getfield 10, 3) := by decide +kernel
theorem dX6_boxes_40 : decode cX6_boxes 40 = .ok (.iload_n 1, 1) := by decide +kernel
theorem dX6_boxes_41 : decode cX6_boxes 41 = .ok (.putfield 110, 3) := by decide +kernel
theorem dX6_boxes_44 : decode cX6_boxes 44 = .ok (.aload_n 0, 1) := by decide +kernel
theorem dX6_boxes_45 : decode cX6_boxes 45 = .ok (.getfield 10, 3) := by decide +kernel
theorem dX6_boxes_48 : decode cX6_boxes 48 = .ok (.iload_n 2, 1) := by decide +kernel
theorem dX6_boxes_49 : decode cX6_boxes 49 = .ok (.putfield 114, 3) := by decide +kernel
theorem dX6_boxes_52 : decode cX6_boxes 52 = .ok (.aload_n 0, 1) := by decide +kernel
theorem dX6_boxes_53 : decode cX6_boxes 53 = .ok (.getfield 10, 3) := by decide +kernel
theorem dX6_boxes_56 : decode cX6_boxes 56 = .ok (.iload_n 3, 1) := by decide +kernel
theorem dX6_boxes_57 : decode cX6_boxes 57 = .ok (.putfield 117, 3) := by decide +kernel
theorem dX6_boxes_60 : decode cX6_boxes 60 = .ok (.aload_n 0, 1) := by decide +kernel
theorem dX6_boxes_61 : decode cX6_boxes 61 = .ok (.aload_n 0, 1) := by decide +kernel
theorem dX6_boxes_62 : decode cX6_boxes 62 = .ok (.getfield 10, 3) := by decide +kernel
theorem dX6_boxes_65 : decode cX6_boxes 65 = .ok (.invokevirtual 120, 3) := by decide +kernel
theorem dX6_boxes_68 : decode cX6_boxes 68 = .ok (.ireturn, 1) := by decide +kernel
set_option maxRecDepth 20000 in
theorem ggX6_undo_X3_pull : GoodIn wsX6_undo wsX3_pull := goodIn_r _ [8, 9, 10, 11, 12, 13, 14, 15, 16, 17, 18, 19, 20, 21, 32, 33, 34, 35, 36, 37, 38, 39] (by decide +kernel) (by decide +kernel)
set_option maxRecDepth 20000 in
theorem gX6_undo_X3_pull : GoodIn wsX6_undo (wsV RX6 123 RX3 yX3_pull wsX3_pull) := goodIn_app (goodIn_of _ (by decide +kernel)) ggX6_undo_X3_pull
theorem dX6_undo_0 : decode cX6_undo 0 = .ok (.aload_n 0, 1) := by decide +kernel
theorem dX6_undo_1 : decode cX6_undo 1 = .ok (.getfield 22, 3) := by decide +kernel
theorem dX6_undo_4 : decode cX6_undo 4 = .ok (.aload_n 0, 1) := by decide +kernel
theorem dX6_undo_5 : decode cX6_undo 5 = .ok (.getfield 10, 3) := by decide +kernel
theorem dX6_undo_8 : decode cX6_undo 8 = .ok (.invokevirtual 123, 3) := by decide +kernel
theorem dX6_undo_11 : decode cX6_undo 11 = .ok (.ifCond .ne 6, 3) := by decide +kernel
theorem dX6_undo_14 : decode cX6_undo 14 = .ok (.bipush (-2), 2) := by decide +kernel
theorem dX6_undo_16 : decode cX6_undo 16 = .ok (.ireturn, 1) := by decide +kernel
theorem dX6_undo_17 : decode cX6_undo 17 = .ok (.aload_n 0, 1) := by decide +kernel
theorem dX6_undo_18 : decode cX6_undo 18 = .ok (.getfield 22, 3) := by decide +kernel
theorem dX6_undo_21 : decode cX6_undo 21 = .ok (.getfield 127, 3) := by decide +kernel
theorem dX6_undo_24 : decode cX6_undo 24 = .ok (.ireturn, 1) := by decide +kernel
set_option maxRecDepth 20000 in
theorem ggX6_counts_X1_hasArrival : GoodIn wsX6_counts wsX1_hasArrival := goodIn_r _ [13, 14, 79, 80, 81, 82, 83] (by decide +kernel) (by decide +kernel)
set_option maxRecDepth 20000 in
theorem gX6_counts_X1_hasArrival : GoodIn wsX6_counts (wsV RX6 81 RX1 yX1_hasArrival wsX1_hasArrival) := goodIn_app (goodIn_of _ (by decide +kernel)) ggX6_counts_X1_hasArrival
set_option maxRecDepth 20000 in
theorem ggX6_counts_X4_spread : GoodIn wsX6_counts wsX4_spread := goodIn_r _ [19, 20, 21, 22, 23, 84, 85, 86, 87] (by decide +kernel) (by decide +kernel)
set_option maxRecDepth 20000 in
theorem gX6_counts_X4_spread : GoodIn wsX6_counts (wsV RX6 130 RX4 yX4_spread wsX4_spread) := goodIn_app (goodIn_of _ (by decide +kernel)) ggX6_counts_X4_spread
set_option maxRecDepth 20000 in
theorem ggX6_counts_X4_narrow : GoodIn wsX6_counts wsX4_narrow := goodIn_r _ [27, 28, 29, 30, 31, 16, 17, 18, 19, 20, 21, 22, 23, 32, 33, 34, 35, 36, 37, 38, 6, 7, 8, 39, 40, 41, 42, 43, 44, 45, 46, 47, 48, 49, 50, 51, 52, 53, 54, 55, 56, 57, 58, 59, 60, 61, 62, 79, 80, 81, 82, 83, 84, 85, 86, 87] (by decide +kernel) (by decide +kernel)
set_option maxRecDepth 20000 in
theorem gX6_counts_X4_narrow : GoodIn wsX6_counts (wsV RX6 134 RX4 yX4_narrow wsX4_narrow) := goodIn_app (goodIn_of _ (by decide +kernel)) ggX6_counts_X4_narrow
set_option maxRecDepth 20000 in
theorem ggX6_counts_X4_leastCount : GoodIn wsX6_counts wsX4_leastCount := goodIn_r _ [35, 36, 37, 38, 6, 7, 8, 39, 40, 41, 18, 42, 22, 23, 79, 80, 81, 82, 83, 84, 85, 86, 87] (by decide +kernel) (by decide +kernel)
set_option maxRecDepth 20000 in
theorem gX6_counts_X4_leastCount : GoodIn wsX6_counts (wsV RX6 137 RX4 yX4_leastCount wsX4_leastCount) := goodIn_app (goodIn_of _ (by decide +kernel)) ggX6_counts_X4_leastCount
set_option maxRecDepth 20000 in
theorem ggX6_counts_X4_greatestCount : GoodIn wsX6_counts wsX4_greatestCount := goodIn_r _ [46, 36, 37, 47, 48, 49, 18, 50, 20, 21, 79, 80, 81, 82, 83, 84, 85, 86, 87] (by decide +kernel) (by decide +kernel)
set_option maxRecDepth 20000 in
theorem gX6_counts_X4_greatestCount : GoodIn wsX6_counts (wsV RX6 141 RX4 yX4_greatestCount wsX4_greatestCount) := goodIn_app (goodIn_of _ (by decide +kernel)) ggX6_counts_X4_greatestCount
set_option maxRecDepth 20000 in
theorem ggX6_counts_X6_ofRange : GoodIn wsX6_counts wsX6_ofRange := goodIn_r _ [68] (by decide +kernel) (by decide +kernel)
set_option maxRecDepth 20000 in
theorem gX6_counts_X6_ofRange : GoodIn wsX6_counts (va_wsS RX6 150 yX6_ofRange wsX6_ofRange) := goodIn_app (goodIn_of _ (by decide +kernel)) ggX6_counts_X6_ofRange
theorem dX6_counts_0 : decode cX6_counts 0 = .ok (.aload_n 0, 1) := by decide +kernel
theorem dX6_counts_1 : decode cX6_counts 1 = .ok (.getfield 10, 3) := by decide +kernel
theorem dX6_counts_4 : decode cX6_counts 4 = .ok (.iload_n 1, 1) := by decide +kernel
theorem dX6_counts_5 : decode cX6_counts 5 = .ok (.invokevirtual 81, 3) := by decide +kernel
theorem dX6_counts_8 : decode cX6_counts 8 = .ok (.ifCond .eq 19, 3) := by decide +kernel
theorem dX6_counts_11 : decode cX6_counts 11 = .ok (.aload_n 0, 1) := by decide +kernel
theorem dX6_counts_12 : decode cX6_counts 12 = .ok (.getfield 10, 3) := by decide +kernel
theorem dX6_counts_15 : decode cX6_counts 15 = .ok (.iload_n 2, 1) := by decide +kernel
theorem dX6_counts_16 : decode cX6_counts 16 = .ok (.invokevirtual 81, 3) := by decide +kernel
theorem dX6_counts_19 : decode cX6_counts 19 = .ok (.ifCond .eq 8, 3) := by decide +kernel
theorem dX6_counts_22 : decode cX6_counts 22 = .ok (.iload_n 1, 1) := by decide +kernel
theorem dX6_counts_23 : decode cX6_counts 23 = .ok (.iload_n 2, 1) := by decide +kernel
theorem dX6_counts_24 : decode cX6_counts 24 = .ok (.if_icmp .lt 5, 3) := by decide +kernel
theorem dX6_counts_27 : decode cX6_counts 27 = .ok (.iconst (-1), 1) := by decide +kernel
theorem dX6_counts_28 : decode cX6_counts 28 = .ok (.ireturn, 1) := by decide +kernel
theorem dX6_counts_29 : decode cX6_counts 29 = .ok (.iload_n 3, 1) := by decide +kernel
theorem dX6_counts_30 : decode cX6_counts 30 = .ok (.ifCond .lt 19, 3) := by decide +kernel
theorem dX6_counts_33 : decode cX6_counts 33 = .ok (.iload_n 3, 1) := by decide +kernel
theorem dX6_counts_34 : decode cX6_counts 34 = .ok (.iconst 1, 1) := by decide +kernel
theorem dX6_counts_35 : decode cX6_counts 35 = .ok (.if_icmp .gt 14, 3) := by decide +kernel
theorem dX6_counts_38 : decode cX6_counts 38 = .ok (.iload 4, 2) := by decide +kernel
theorem dX6_counts_40 : decode cX6_counts 40 = .ok (.ifCond .lt 9, 3) := by decide +kernel
theorem dX6_counts_43 : decode cX6_counts 43 = .ok (.iload 4, 2) := by decide +kernel
theorem dX6_counts_45 : decode cX6_counts 45 = .ok (.iconst 2, 1) := by decide +kernel
theorem dX6_counts_46 : decode cX6_counts 46 = .ok (.if_icmp .le 5, 3) := by decide +kernel
theorem dX6_counts_49 : decode cX6_counts 49 = .ok (.iconst (-1), 1) := by decide +kernel
theorem dX6_counts_50 : decode cX6_counts 50 = .ok (.ireturn, 1) := by decide +kernel
theorem dX6_counts_51 : decode cX6_counts 51 = .ok (.iload_n 3, 1) := by decide +kernel
theorem dX6_counts_52 : decode cX6_counts 52 = .ok (.ifCond .ne 27, 3) := by decide +kernel
theorem dX6_counts_55 : decode cX6_counts 55 = .ok (.aload_n 0, 1) := by decide +kernel
theorem dX6_counts_56 : decode cX6_counts 56 = .ok (.getfield 51, 3) := by decide +kernel
theorem dX6_counts_59 : decode cX6_counts 59 = .ok (.aload_n 0, 1) := by decide +kernel
theorem dX6_counts_60 : decode cX6_counts 60 = .ok (.getfield 10, 3) := by decide +kernel
theorem dX6_counts_63 : decode cX6_counts 63 = .ok (.getfield 110, 3) := by decide +kernel
theorem dX6_counts_66 : decode cX6_counts 66 = .ok (.aload_n 0, 1) := by decide +kernel
theorem dX6_counts_67 : decode cX6_counts 67 = .ok (.getfield 10, 3) := by decide +kernel
theorem dX6_counts_70 : decode cX6_counts 70 = .ok (.getfield 114, 3) := by decide +kernel
theorem dX6_counts_73 : decode cX6_counts 73 = .ok (.invokevirtual 130, 3) := by decide +kernel
theorem dX6_counts_76 : decode cX6_counts 76 = .ok (.goto 20, 3) := by decide +kernel
theorem dX6_counts_79 : decode cX6_counts 79 = .ok (.aload_n 0, 1) := by decide +kernel
theorem dX6_counts_80 : decode cX6_counts 80 = .ok (.getfield 51, 3) := by decide +kernel
theorem dX6_counts_83 : decode cX6_counts 83 = .ok (.aload_n 0, 1) := by decide +kernel
theorem dX6_counts_84 : decode cX6_counts 84 = .ok (.getfield 10, 3) := by decide +kernel
theorem dX6_counts_87 : decode cX6_counts 87 = .ok (.invokevirtual 134, 3) := by decide +kernel
theorem dX6_counts_90 : decode cX6_counts 90 = .ok (.ifCond .ne 6, 3) := by decide +kernel
theorem dX6_counts_93 : decode cX6_counts 93 = .ok (.bipush (-2), 2) := by decide +kernel
theorem dX6_counts_95 : decode cX6_counts 95 = .ok (.ireturn, 1) := by decide +kernel
theorem dX6_counts_96 : decode cX6_counts 96 = .ok (.aload_n 0, 1) := by decide +kernel
theorem dX6_counts_97 : decode cX6_counts 97 = .ok (.getfield 51, 3) := by decide +kernel
theorem dX6_counts_100 : decode cX6_counts 100 = .ok (.aload_n 0, 1) := by decide +kernel
theorem dX6_counts_101 : decode cX6_counts 101 = .ok (.getfield 10, 3) := by decide +kernel
theorem dX6_counts_104 : decode cX6_counts 104 = .ok (.iload_n 1, 1) := by decide +kernel
theorem dX6_counts_105 : decode cX6_counts 105 = .ok (.iload_n 2, 1) := by decide +kernel
theorem dX6_counts_106 : decode cX6_counts 106 = .ok (.invokevirtual 137, 3) := by decide +kernel
theorem dX6_counts_109 : decode cX6_counts 109 = .ok (.istore 5, 2) := by decide +kernel
theorem dX6_counts_111 : decode cX6_counts 111 = .ok (.aload_n 0, 1) := by decide +kernel
theorem dX6_counts_112 : decode cX6_counts 112 = .ok (.getfield 51, 3) := by decide +kernel
theorem dX6_counts_115 : decode cX6_counts 115 = .ok (.aload_n 0, 1) := by decide +kernel
theorem dX6_counts_116 : decode cX6_counts 116 = .ok (.getfield 10, 3) := by decide +kernel
theorem dX6_counts_119 : decode cX6_counts 119 = .ok (.iload_n 1, 1) := by decide +kernel
theorem dX6_counts_120 : decode cX6_counts 120 = .ok (.iload_n 2, 1) := by decide +kernel
theorem dX6_counts_121 : decode cX6_counts 121 = .ok (.invokevirtual 141, 3) := by decide +kernel
theorem dX6_counts_124 : decode cX6_counts 124 = .ok (.istore 6, 2) := by decide +kernel
theorem dX6_counts_126 : decode cX6_counts 126 = .ok (.iconst 0, 1) := by decide +kernel
theorem dX6_counts_127 : decode cX6_counts 127 = .ok (.iload 6, 2) := by decide +kernel
theorem dX6_counts_129 : decode cX6_counts 129 = .ok (.iload 5, 2) := by decide +kernel
theorem dX6_counts_131 : decode cX6_counts 131 = .ok (.isub, 1) := by decide +kernel
theorem dX6_counts_132 : decode cX6_counts 132 = .ok (.iconst 1, 1) := by decide +kernel
theorem dX6_counts_133 : decode cX6_counts 133 = .ok (.iadd, 1) := by decide +kernel
theorem dX6_counts_134 : decode cX6_counts 134 = .ok (.invokestatic 144, 3) := by decide +kernel
theorem dX6_counts_137 : decode cX6_counts 137 = .ok (.iload 5, 2) := by decide +kernel
theorem dX6_counts_139 : decode cX6_counts 139 = .ok (.iload 6, 2) := by decide +kernel
theorem dX6_counts_141 : decode cX6_counts 141 = .ok (.iload 4, 2) := by decide +kernel
theorem dX6_counts_143 : decode cX6_counts 143 = .ok (.invokestatic 150, 3) := by decide +kernel
theorem dX6_counts_146 : decode cX6_counts 146 = .ok (.ireturn, 1) := by decide +kernel
set_option maxRecDepth 20000 in
theorem ggX6_narrowed_X4_narrow : GoodIn wsX6_narrowed wsX4_narrow := goodIn_r _ [7, 8, 9, 10, 11, 12, 13, 6, 14, 15, 16, 17, 18, 19, 20, 21, 22, 23, 24, 25, 26, 27, 28, 29, 30, 31, 32, 33, 34, 35, 36, 37, 38, 39, 40, 41, 42, 43, 44, 45, 46, 47, 48, 49, 50, 51, 52, 78, 79, 80, 81, 82, 83, 84, 85, 86] (by decide +kernel) (by decide +kernel)
set_option maxRecDepth 20000 in
theorem gX6_narrowed_X4_narrow : GoodIn wsX6_narrowed (wsV RX6 134 RX4 yX4_narrow wsX4_narrow) := goodIn_app (goodIn_of _ (by decide +kernel)) ggX6_narrowed_X4_narrow
set_option maxRecDepth 20000 in
theorem ggX6_narrowed_X4_part : GoodIn wsX6_narrowed wsX4_part := goodIn_r _ [56, 15, 16, 17, 18, 57, 58, 59, 60, 61, 62, 27, 63, 64, 65, 66, 67, 83, 84, 85, 86] (by decide +kernel) (by decide +kernel)
set_option maxRecDepth 20000 in
theorem gX6_narrowed_X4_part : GoodIn wsX6_narrowed (wsV RX6 154 RX4 yX4_part wsX4_part) := goodIn_app (goodIn_of _ (by decide +kernel)) ggX6_narrowed_X4_part
theorem dX6_narrowed_0 : decode cX6_narrowed 0 = .ok (.iload_n 1, 1) := by decide +kernel
theorem dX6_narrowed_1 : decode cX6_narrowed 1 = .ok (.ifCond .lt 8, 3) := by decide +kernel
theorem dX6_narrowed_4 : decode cX6_narrowed 4 = .ok (.iload_n 1, 1) := by decide +kernel
theorem dX6_narrowed_5 : decode cX6_narrowed 5 = .ok (.iconst 3, 1) := by decide +kernel
theorem dX6_narrowed_6 : decode cX6_narrowed 6 = .ok (.if_icmp .le 5, 3) := by decide +kernel
theorem dX6_narrowed_9 : decode cX6_narrowed 9 = .ok (.iconst (-1), 1) := by decide +kernel
theorem dX6_narrowed_10 : decode cX6_narrowed 10 = .ok (.ireturn, 1) := by decide +kernel
theorem dX6_narrowed_11 : decode cX6_narrowed 11 = .ok (.aload_n 0, 1) := by decide +kernel
theorem dX6_narrowed_12 : decode cX6_narrowed 12 = .ok (.getfield 51, 3) := by decide +kernel
theorem dX6_narrowed_15 : decode cX6_narrowed 15 = .ok (.aload_n 0, 1) := by decide +kernel
theorem dX6_narrowed_16 : decode cX6_narrowed 16 = .ok (.getfield 10, 3) := by decide +kernel
theorem dX6_narrowed_19 : decode cX6_narrowed 19 = .ok (.invokevirtual 134, 3) := by decide +kernel
theorem dX6_narrowed_22 : decode cX6_narrowed 22 = .ok (.ifCond .eq 14, 3) := by decide +kernel
theorem dX6_narrowed_25 : decode cX6_narrowed 25 = .ok (.aload_n 0, 1) := by decide +kernel
theorem dX6_narrowed_26 : decode cX6_narrowed 26 = .ok (.getfield 51, 3) := by decide +kernel
theorem dX6_narrowed_29 : decode cX6_narrowed 29 = .ok (.iload_n 1, 1) := by decide +kernel
theorem dX6_narrowed_30 : decode cX6_narrowed 30 = .ok (.invokevirtual 154, 3) := by decide +kernel
theorem dX6_narrowed_33 : decode cX6_narrowed 33 = .ok (.goto 5, 3) := by decide +kernel
theorem dX6_narrowed_36 : decode cX6_narrowed 36 = .ok (.bipush (-9), 2) := by decide +kernel
theorem dX6_narrowed_38 : decode cX6_narrowed 38 = .ok (.ireturn, 1) := by decide +kernel
set_option maxRecDepth 20000 in
theorem ggX6_number_X1_hasArrival : GoodIn wsX6_number wsX1_hasArrival := goodIn_r _ [8, 9, 106, 107, 108, 109, 110] (by decide +kernel) (by decide +kernel)
set_option maxRecDepth 20000 in
theorem gX6_number_X1_hasArrival : GoodIn wsX6_number (wsV RX6 81 RX1 yX1_hasArrival wsX1_hasArrival) := goodIn_app (goodIn_of _ (by decide +kernel)) ggX6_number_X1_hasArrival
set_option maxRecDepth 20000 in
theorem ggX6_number_X6_goesTo : GoodIn wsX6_number wsX6_goesTo := goodIn_r _ [14, 15, 2, 1, 16, 17, 18, 19, 20, 21, 22, 23, 24, 25, 26, 27, 28, 29, 30, 31, 32, 33, 34, 35, 36, 37, 38, 39, 40, 41, 42, 43, 44, 45, 46, 47, 48, 49, 50, 51, 52, 53, 54, 55, 56, 57, 58, 59, 60, 61, 62, 63, 64, 65, 66, 67, 68, 69, 70, 71, 72, 73, 74, 75, 76, 77, 78, 79, 80, 81, 82, 83, 84, 85, 86, 87, 88, 89, 90, 91, 92, 93, 94, 95, 96, 97, 98, 99, 100, 101, 102, 103, 104, 105, 106, 107, 108, 109, 110, 111, 112, 113, 114] (by decide +kernel) (by decide +kernel)
set_option maxRecDepth 20000 in
theorem gX6_number_X6_goesTo : GoodIn wsX6_number (wsV RX6 157 RX6 yX6_goesTo wsX6_goesTo) := goodIn_app (goodIn_of _ (by decide +kernel)) ggX6_number_X6_goesTo
theorem dX6_number_0 : decode cX6_number 0 = .ok (.iload_n 1, 1) := by decide +kernel
theorem dX6_number_1 : decode cX6_number 1 = .ok (.ifCond .lt 14, 3) := by decide +kernel
theorem dX6_number_4 : decode cX6_number 4 = .ok (.aload_n 0, 1) := by decide +kernel
theorem dX6_number_5 : decode cX6_number 5 = .ok (.getfield 10, 3) := by decide +kernel
theorem dX6_number_8 : decode cX6_number 8 = .ok (.iload_n 2, 1) := by decide +kernel
theorem dX6_number_9 : decode cX6_number 9 = .ok (.invokevirtual 81, 3) := by decide +kernel
theorem dX6_number_12 : decode cX6_number 12 = .ok (.ifCond .ne 5, 3) := by decide +kernel
theorem dX6_number_15 : decode cX6_number 15 = .ok (.iconst (-1), 1) := by decide +kernel
theorem dX6_number_16 : decode cX6_number 16 = .ok (.ireturn, 1) := by decide +kernel
theorem dX6_number_17 : decode cX6_number 17 = .ok (.aload_n 0, 1) := by decide +kernel
theorem dX6_number_18 : decode cX6_number 18 = .ok (.iload_n 1, 1) := by decide +kernel
theorem dX6_number_19 : decode cX6_number 19 = .ok (.invokevirtual 157, 3) := by decide +kernel
theorem dX6_number_22 : decode cX6_number 22 = .ok (.ifCond .eq 15, 3) := by decide +kernel
theorem dX6_number_25 : decode cX6_number 25 = .ok (.aload_n 0, 1) := by decide +kernel
theorem dX6_number_26 : decode cX6_number 26 = .ok (.getfield 44, 3) := by decide +kernel
theorem dX6_number_29 : decode cX6_number 29 = .ok (.getfield 160, 3) := by decide +kernel
theorem dX6_number_32 : decode cX6_number 32 = .ok (.iload_n 2, 1) := by decide +kernel
theorem dX6_number_33 : decode cX6_number 33 = .ok (.iaload, 1) := by decide +kernel
theorem dX6_number_34 : decode cX6_number 34 = .ok (.goto 5, 3) := by decide +kernel
theorem dX6_number_37 : decode cX6_number 37 = .ok (.bipush (-9), 2) := by decide +kernel
theorem dX6_number_39 : decode cX6_number 39 = .ok (.ireturn, 1) := by decide +kernel
set_option maxRecDepth 20000 in
theorem ggX6_box_X6_goesTo : GoodIn wsX6_box wsX6_goesTo := goodIn_r _ [6, 7, 1, 8, 9, 10, 11, 12, 13, 14, 15, 16, 17, 18, 19, 20, 21, 22, 23, 24, 25, 26, 27, 28, 29, 30, 31, 32, 33, 34, 35, 36, 37, 38, 39, 40, 41, 42, 43, 44, 45, 46, 47, 48, 49, 50, 51, 52, 53, 54, 55, 56, 57, 58, 59, 60, 61, 62, 63, 64, 65, 66, 67, 68, 69, 70, 71, 72, 73, 74, 75, 76, 77, 78, 79, 80, 100, 101, 102, 103, 104, 105, 106, 107, 108, 109, 110, 111, 112, 113, 114, 115, 116, 117, 118, 119, 120, 121, 122, 123, 124, 125, 126] (by decide +kernel) (by decide +kernel)
set_option maxRecDepth 20000 in
theorem gX6_box_X6_goesTo : GoodIn wsX6_box (wsV RX6 157 RX6 yX6_goesTo wsX6_goesTo) := goodIn_app (goodIn_of _ (by decide +kernel)) ggX6_box_X6_goesTo
set_option maxRecDepth 20000 in
theorem ggX6_box_X2_boxPart : GoodIn wsX6_box wsX2_boxPart := goodIn_r _ [84, 17, 23, 85, 86, 87, 29, 88, 31, 32, 33, 34, 89, 90, 91, 92, 93, 94, 49, 95, 96, 97, 98, 99, 110, 111, 112, 113, 114, 115, 116, 117, 123, 124, 125, 126] (by decide +kernel) (by decide +kernel)
set_option maxRecDepth 20000 in
theorem gX6_box_X2_boxPart : GoodIn wsX6_box (wsV RX6 163 RX2 yX2_boxPart wsX2_boxPart) := goodIn_app (goodIn_of _ (by decide +kernel)) ggX6_box_X2_boxPart
theorem dX6_box_0 : decode cX6_box 0 = .ok (.iload_n 1, 1) := by decide +kernel
theorem dX6_box_1 : decode cX6_box 1 = .ok (.ifCond .lt 12, 3) := by decide +kernel
theorem dX6_box_4 : decode cX6_box 4 = .ok (.iload_n 2, 1) := by decide +kernel
theorem dX6_box_5 : decode cX6_box 5 = .ok (.ifCond .lt 8, 3) := by decide +kernel
theorem dX6_box_8 : decode cX6_box 8 = .ok (.iload_n 2, 1) := by decide +kernel
theorem dX6_box_9 : decode cX6_box 9 = .ok (.iconst 3, 1) := by decide +kernel
theorem dX6_box_10 : decode cX6_box 10 = .ok (.if_icmp .le 5, 3) := by decide +kernel
theorem dX6_box_13 : decode cX6_box 13 = .ok (.iconst (-1), 1) := by decide +kernel
theorem dX6_box_14 : decode cX6_box 14 = .ok (.ireturn, 1) := by decide +kernel
theorem dX6_box_15 : decode cX6_box 15 = .ok (.aload_n 0, 1) := by decide +kernel
theorem dX6_box_16 : decode cX6_box 16 = .ok (.iload_n 1, 1) := by decide +kernel
theorem dX6_box_17 : decode cX6_box 17 = .ok (.invokevirtual 157, 3) := by decide +kernel
theorem dX6_box_20 : decode cX6_box 20 = .ok (.ifCond .eq 14, 3) := by decide +kernel
theorem dX6_box_23 : decode cX6_box 23 = .ok (.aload_n 0, 1) := by decide +kernel
theorem dX6_box_24 : decode cX6_box 24 = .ok (.getfield 44, 3) := by decide +kernel
theorem dX6_box_27 : decode cX6_box 27 = .ok (.iload_n 2, 1) := by decide +kernel
theorem dX6_box_28 : decode cX6_box 28 = .ok (.invokevirtual 163, 3) := by decide +kernel
theorem dX6_box_31 : decode cX6_box 31 = .ok (.goto 5, 3) := by decide +kernel
theorem dX6_box_34 : decode cX6_box 34 = .ok (.bipush (-9), 2) := by decide +kernel
theorem dX6_box_36 : decode cX6_box 36 = .ok (.ireturn, 1) := by decide +kernel
set_option maxRecDepth 20000 in
theorem ggX6_held_X2_begin : GoodIn wsX6_held wsX2_begin := goodIn_r _ [10, 11, 12, 13, 14, 15, 16, 17, 18, 19, 20, 21, 22, 23, 24, 25, 26, 27, 28, 29, 30, 31, 93, 94, 95, 96, 97, 98, 99, 100, 88, 89, 90, 91, 92, 101, 102, 103, 104] (by decide +kernel) (by decide +kernel)
set_option maxRecDepth 20000 in
theorem gX6_held_X2_begin : GoodIn wsX6_held (wsV RX6 167 RX2 yX2_begin wsX2_begin) := goodIn_app (goodIn_of _ (by decide +kernel)) ggX6_held_X2_begin
set_option maxRecDepth 20000 in
theorem ggX6_held_X2_next : GoodIn wsX6_held wsX2_next := goodIn_r _ [35, 18, 14, 17, 36, 37, 38, 9, 39, 11, 20, 16, 19, 40, 41, 42, 43, 44, 45, 46, 47, 26, 48, 30, 31, 49, 50, 51, 52, 28, 29, 53, 54, 55, 56, 57, 58, 59, 60, 61, 62, 63, 64, 65, 66, 67, 68, 69, 70, 71, 72, 73, 93, 94, 95, 96, 97, 98, 99, 100, 101, 102, 103, 104] (by decide +kernel) (by decide +kernel)
set_option maxRecDepth 20000 in
theorem gX6_held_X2_next : GoodIn wsX6_held (wsV RX6 171 RX2 yX2_next wsX2_next) := goodIn_app (goodIn_of _ (by decide +kernel)) ggX6_held_X2_next
set_option maxRecDepth 20000 in
theorem ggX6_held_X6_ofRange : GoodIn wsX6_held wsX6_ofRange := goodIn_r _ [77] (by decide +kernel) (by decide +kernel)
set_option maxRecDepth 20000 in
theorem gX6_held_X6_ofRange : GoodIn wsX6_held (va_wsS RX6 150 yX6_ofRange wsX6_ofRange) := goodIn_app (goodIn_of _ (by decide +kernel)) ggX6_held_X6_ofRange
theorem dX6_held_0 : decode cX6_held 0 = .ok (.iload_n 1, 1) := by decide +kernel
theorem dX6_held_1 : decode cX6_held 1 = .ok (.ifCond .lt 31, 3) := by decide +kernel
theorem dX6_held_4 : decode cX6_held 4 = .ok (.iload_n 1, 1) := by decide +kernel
theorem dX6_held_5 : decode cX6_held 5 = .ok (.aload_n 0, 1) := by decide +kernel
theorem dX6_held_6 : decode cX6_held 6 = .ok (.getfield 10, 3) := by decide +kernel
theorem dX6_held_9 : decode cX6_held 9 = .ok (.getfield 166, 3) := by decide +kernel
theorem dX6_held_12 : decode cX6_held 12 = .ok (.iconst 1, 1) := by decide +kernel
theorem dX6_held_13 : decode cX6_held 13 = .ok (.isub, 1) := by decide +kernel
theorem dX6_held_14 : decode cX6_held 14 = .ok (.if_icmp .ge 18, 3) := by decide +kernel
theorem dX6_held_17 : decode cX6_held 17 = .ok (.iload_n 1, 1) := by decide +kernel
theorem dX6_held_18 : decode cX6_held 18 = .ok (.bipush 6, 2) := by decide +kernel
theorem dX6_held_20 : decode cX6_held 20 = .ok (.if_icmp .ge 12, 3) := by decide +kernel
theorem dX6_held_23 : decode cX6_held 23 = .ok (.iload_n 2, 1) := by decide +kernel
theorem dX6_held_24 : decode cX6_held 24 = .ok (.ifCond .lt 8, 3) := by decide +kernel
theorem dX6_held_27 : decode cX6_held 27 = .ok (.iload_n 2, 1) := by decide +kernel
theorem dX6_held_28 : decode cX6_held 28 = .ok (.iconst 2, 1) := by decide +kernel
theorem dX6_held_29 : decode cX6_held 29 = .ok (.if_icmp .le 5, 3) := by decide +kernel
theorem dX6_held_32 : decode cX6_held 32 = .ok (.iconst (-1), 1) := by decide +kernel
theorem dX6_held_33 : decode cX6_held 33 = .ok (.ireturn, 1) := by decide +kernel
theorem dX6_held_34 : decode cX6_held 34 = .ok (.iconst 0, 1) := by decide +kernel
theorem dX6_held_35 : decode cX6_held 35 = .ok (.istore_n 3, 1) := by decide +kernel
theorem dX6_held_36 : decode cX6_held 36 = .ok (.iconst 0, 1) := by decide +kernel
theorem dX6_held_37 : decode cX6_held 37 = .ok (.istore 4, 2) := by decide +kernel
theorem dX6_held_39 : decode cX6_held 39 = .ok (.iconst 0, 1) := by decide +kernel
theorem dX6_held_40 : decode cX6_held 40 = .ok (.istore 5, 2) := by decide +kernel
theorem dX6_held_42 : decode cX6_held 42 = .ok (.aload_n 0, 1) := by decide +kernel
theorem dX6_held_43 : decode cX6_held 43 = .ok (.getfield 44, 3) := by decide +kernel
theorem dX6_held_46 : decode cX6_held 46 = .ok (.aload_n 0, 1) := by decide +kernel
theorem dX6_held_47 : decode cX6_held 47 = .ok (.getfield 10, 3) := by decide +kernel
theorem dX6_held_50 : decode cX6_held 50 = .ok (.invokevirtual 167, 3) := by decide +kernel
theorem dX6_held_53 : decode cX6_held 53 = .ok (.iconst 0, 1) := by decide +kernel
theorem dX6_held_54 : decode cX6_held 54 = .ok (.istore 6, 2) := by decide +kernel
theorem dX6_held_56 : decode cX6_held 56 = .ok (.iload 6, 2) := by decide +kernel
theorem dX6_held_58 : decode cX6_held 58 = .ok (.ldc 170, 2) := by decide +kernel
theorem dX6_held_60 : decode cX6_held 60 = .ok (.if_icmp .ge 70, 3) := by decide +kernel
theorem dX6_held_63 : decode cX6_held 63 = .ok (.aload_n 0, 1) := by decide +kernel
theorem dX6_held_64 : decode cX6_held 64 = .ok (.getfield 44, 3) := by decide +kernel
theorem dX6_held_67 : decode cX6_held 67 = .ok (.invokevirtual 171, 3) := by decide +kernel
theorem dX6_held_70 : decode cX6_held 70 = .ok (.ifCond .eq 60, 3) := by decide +kernel
theorem dX6_held_73 : decode cX6_held 73 = .ok (.aload_n 0, 1) := by decide +kernel
theorem dX6_held_74 : decode cX6_held 74 = .ok (.getfield 44, 3) := by decide +kernel
theorem dX6_held_77 : decode cX6_held 77 = .ok (.getfield 160, 3) := by decide +kernel
theorem dX6_held_80 : decode cX6_held 80 = .ok (.iload_n 1, 1) := by decide +kernel
theorem dX6_held_81 : decode cX6_held 81 = .ok (.iconst 1, 1) := by decide +kernel
theorem dX6_held_82 : decode cX6_held 82 = .ok (.iadd, 1) := by decide +kernel
theorem dX6_held_83 : decode cX6_held 83 = .ok (.iaload, 1) := by decide +kernel
theorem dX6_held_84 : decode cX6_held 84 = .ok (.aload_n 0, 1) := by decide +kernel
theorem dX6_held_85 : decode cX6_held 85 = .ok (.getfield 44, 3) := by decide +kernel
theorem dX6_held_88 : decode cX6_held 88 = .ok (.getfield 160, 3) := by decide +kernel
theorem dX6_held_91 : decode cX6_held 91 = .ok (.iload_n 1, 1) := by decide +kernel
theorem dX6_held_92 : decode cX6_held 92 = .ok (.iaload, 1) := by decide +kernel
theorem dX6_held_93 : decode cX6_held 93 = .ok (.isub, 1) := by decide +kernel
theorem dX6_held_94 : decode cX6_held 94 = .ok (.istore 7, 2) := by decide +kernel
theorem dX6_held_96 : decode cX6_held 96 = .ok (.iload 7, 2) := by decide +kernel
theorem dX6_held_98 : decode cX6_held 98 = .ok (.iload 5, 2) := by decide +kernel
theorem dX6_held_100 : decode cX6_held 100 = .ok (.if_icmp .le 24, 3) := by decide +kernel
theorem dX6_held_103 : decode cX6_held 103 = .ok (.iinc 3 1, 3) := by decide +kernel
theorem dX6_held_106 : decode cX6_held 106 = .ok (.iload_n 3, 1) := by decide +kernel
theorem dX6_held_107 : decode cX6_held 107 = .ok (.iconst 1, 1) := by decide +kernel
theorem dX6_held_108 : decode cX6_held 108 = .ok (.if_icmp .ne 8, 3) := by decide +kernel
theorem dX6_held_111 : decode cX6_held 111 = .ok (.iload 7, 2) := by decide +kernel
theorem dX6_held_113 : decode cX6_held 113 = .ok (.goto 5, 3) := by decide +kernel
theorem dX6_held_116 : decode cX6_held 116 = .ok (.iload 4, 2) := by decide +kernel
theorem dX6_held_118 : decode cX6_held 118 = .ok (.istore 4, 2) := by decide +kernel
theorem dX6_held_120 : decode cX6_held 120 = .ok (.iload 7, 2) := by decide +kernel
theorem dX6_held_122 : decode cX6_held 122 = .ok (.istore 5, 2) := by decide +kernel
theorem dX6_held_124 : decode cX6_held 124 = .ok (.iinc 6 1, 3) := by decide +kernel
theorem dX6_held_127 : decode cX6_held 127 = .ok (.goto (-71), 3) := by decide +kernel
theorem dX6_held_130 : decode cX6_held 130 = .ok (.iload_n 3, 1) := by decide +kernel
theorem dX6_held_131 : decode cX6_held 131 = .ok (.iload 4, 2) := by decide +kernel
theorem dX6_held_133 : decode cX6_held 133 = .ok (.iload 5, 2) := by decide +kernel
theorem dX6_held_135 : decode cX6_held 135 = .ok (.iload_n 2, 1) := by decide +kernel
theorem dX6_held_136 : decode cX6_held 136 = .ok (.invokestatic 150, 3) := by decide +kernel
theorem dX6_held_139 : decode cX6_held 139 = .ok (.ireturn, 1) := by decide +kernel
set_option maxRecDepth 20000 in
theorem ggX6_bend_X1_hasArrival : GoodIn wsX6_bend wsX1_hasArrival := goodIn_r _ [10, 11, 111, 112, 113, 114, 115] (by decide +kernel) (by decide +kernel)
set_option maxRecDepth 20000 in
theorem gX6_bend_X1_hasArrival : GoodIn wsX6_bend (wsV RX6 81 RX1 yX1_hasArrival wsX1_hasArrival) := goodIn_app (goodIn_of _ (by decide +kernel)) ggX6_bend_X1_hasArrival
set_option maxRecDepth 20000 in
theorem ggX6_bend_X6_goesTo : GoodIn wsX6_bend wsX6_goesTo := goodIn_r _ [16, 17, 4, 1, 18, 19, 20, 21, 22, 23, 24, 25, 26, 27, 28, 29, 30, 31, 32, 33, 34, 35, 36, 37, 38, 39, 40, 41, 42, 43, 44, 45, 46, 47, 48, 49, 50, 51, 52, 53, 54, 55, 56, 57, 58, 59, 60, 61, 62, 63, 64, 65, 66, 67, 68, 69, 70, 71, 72, 73, 74, 75, 76, 77, 78, 79, 80, 81, 82, 83, 84, 85, 86, 87, 88, 89, 101, 102, 103, 104, 105, 106, 107, 108, 109, 110, 116, 117, 118, 119, 120, 121, 122, 123, 111, 112, 113, 114, 115, 124, 125, 126, 127] (by decide +kernel) (by decide +kernel)
set_option maxRecDepth 20000 in
theorem gX6_bend_X6_goesTo : GoodIn wsX6_bend (wsV RX6 157 RX6 yX6_goesTo wsX6_goesTo) := goodIn_app (goodIn_of _ (by decide +kernel)) ggX6_bend_X6_goesTo
set_option maxRecDepth 20000 in
theorem ggX6_bend_X0_part : GoodIn wsX6_bend wsX0_part := goodIn_r _ [93, 94, 95, 58, 96, 97, 98, 92, 99, 100] (by decide +kernel) (by decide +kernel)
set_option maxRecDepth 20000 in
theorem gX6_bend_X0_part : GoodIn wsX6_bend (va_wsS RX6 176 yX0_part wsX0_part) := goodIn_app (goodIn_of _ (by decide +kernel)) ggX6_bend_X0_part
theorem dX6_bend_0 : decode cX6_bend 0 = .ok (.aload_n 0, 1) := by decide +kernel
theorem dX6_bend_1 : decode cX6_bend 1 = .ok (.getfield 10, 3) := by decide +kernel
theorem dX6_bend_4 : decode cX6_bend 4 = .ok (.iload_n 1, 1) := by decide +kernel
theorem dX6_bend_5 : decode cX6_bend 5 = .ok (.invokevirtual 81, 3) := by decide +kernel
theorem dX6_bend_8 : decode cX6_bend 8 = .ok (.ifCond .eq 35, 3) := by decide +kernel
theorem dX6_bend_11 : decode cX6_bend 11 = .ok (.aload_n 0, 1) := by decide +kernel
theorem dX6_bend_12 : decode cX6_bend 12 = .ok (.getfield 10, 3) := by decide +kernel
theorem dX6_bend_15 : decode cX6_bend 15 = .ok (.iload_n 2, 1) := by decide +kernel
theorem dX6_bend_16 : decode cX6_bend 16 = .ok (.invokevirtual 81, 3) := by decide +kernel
theorem dX6_bend_19 : decode cX6_bend 19 = .ok (.ifCond .eq 24, 3) := by decide +kernel
theorem dX6_bend_22 : decode cX6_bend 22 = .ok (.aload_n 0, 1) := by decide +kernel
theorem dX6_bend_23 : decode cX6_bend 23 = .ok (.getfield 10, 3) := by decide +kernel
theorem dX6_bend_26 : decode cX6_bend 26 = .ok (.iload_n 3, 1) := by decide +kernel
theorem dX6_bend_27 : decode cX6_bend 27 = .ok (.invokevirtual 81, 3) := by decide +kernel
theorem dX6_bend_30 : decode cX6_bend 30 = .ok (.ifCond .eq 13, 3) := by decide +kernel
theorem dX6_bend_33 : decode cX6_bend 33 = .ok (.iload_n 1, 1) := by decide +kernel
theorem dX6_bend_34 : decode cX6_bend 34 = .ok (.iload_n 2, 1) := by decide +kernel
theorem dX6_bend_35 : decode cX6_bend 35 = .ok (.if_icmp .ge 8, 3) := by decide +kernel
theorem dX6_bend_38 : decode cX6_bend 38 = .ok (.iload_n 2, 1) := by decide +kernel
theorem dX6_bend_39 : decode cX6_bend 39 = .ok (.iload_n 3, 1) := by decide +kernel
theorem dX6_bend_40 : decode cX6_bend 40 = .ok (.if_icmp .lt 6, 3) := by decide +kernel
theorem dX6_bend_43 : decode cX6_bend 43 = .ok (.ldc 175, 2) := by decide +kernel
theorem dX6_bend_45 : decode cX6_bend 45 = .ok (.ireturn, 1) := by decide +kernel
theorem dX6_bend_46 : decode cX6_bend 46 = .ok (.iload 4, 2) := by decide +kernel
theorem dX6_bend_48 : decode cX6_bend 48 = .ok (.ifCond .lt 17, 3) := by decide +kernel
theorem dX6_bend_51 : decode cX6_bend 51 = .ok (.iload 4, 2) := by decide +kernel
theorem dX6_bend_53 : decode cX6_bend 53 = .ok (.iconst 1, 1) := by decide +kernel
theorem dX6_bend_54 : decode cX6_bend 54 = .ok (.if_icmp .gt 11, 3) := by decide +kernel
theorem dX6_bend_57 : decode cX6_bend 57 = .ok (.aload_n 0, 1) := by decide +kernel
theorem dX6_bend_58 : decode cX6_bend 58 = .ok (.iconst 0, 1) := by decide +kernel
theorem dX6_bend_59 : decode cX6_bend 59 = .ok (.invokevirtual 157, 3) := by decide +kernel
theorem dX6_bend_62 : decode cX6_bend 62 = .ok (.ifCond .ne 6, 3) := by decide +kernel
