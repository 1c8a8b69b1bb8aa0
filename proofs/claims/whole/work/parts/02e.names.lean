theorem dX4_ranks_60 : decode cX4_ranks 60 = .ok (.aload_n 0, 1) := by decide +kernel
theorem dX4_ranks_61 : decode cX4_ranks 61 = .ok (.getfield 7, 3) := by decide +kernel
theorem dX4_ranks_64 : decode cX4_ranks 64 = .ok (.iconst 5, 1) := by decide +kernel
theorem dX4_ranks_65 : decode cX4_ranks 65 = .ok (.iload_n 1, 1) := by decide +kernel
theorem dX4_ranks_66 : decode cX4_ranks 66 = .ok (.iadd, 1) := by decide +kernel
theorem dX4_ranks_67 : decode cX4_ranks 67 = .ok (.iload_n 2, 1) := by decide +kernel
theorem dX4_ranks_68 : decode cX4_ranks 68 = .ok (.iastore, 1) := by decide +kernel
theorem dX4_ranks_69 : decode cX4_ranks 69 = .ok (.iconst 0, 1) := by decide +kernel
theorem dX4_ranks_70 : decode cX4_ranks 70 = .ok (.istore 4, 2) := by decide +kernel
theorem dX4_ranks_72 : decode cX4_ranks 72 = .ok (.iload 4, 2) := by decide +kernel
theorem dX4_ranks_74 : decode cX4_ranks 74 = .ok (.aload_n 0, 1) := by decide +kernel
theorem dX4_ranks_75 : decode cX4_ranks 75 = .ok (.getfield 7, 3) := by decide +kernel
theorem dX4_ranks_78 : decode cX4_ranks 78 = .ok (.iconst 0, 1) := by decide +kernel
theorem dX4_ranks_79 : decode cX4_ranks 79 = .ok (.iaload, 1) := by decide +kernel
theorem dX4_ranks_80 : decode cX4_ranks 80 = .ok (.if_icmp .ge 38, 3) := by decide +kernel
theorem dX4_ranks_83 : decode cX4_ranks 83 = .ok (.aload_n 0, 1) := by decide +kernel
theorem dX4_ranks_84 : decode cX4_ranks 84 = .ok (.iload 4, 2) := by decide +kernel
theorem dX4_ranks_86 : decode cX4_ranks 86 = .ok (.iconst 1, 1) := by decide +kernel
theorem dX4_ranks_87 : decode cX4_ranks 87 = .ok (.aload_n 0, 1) := by decide +kernel
theorem dX4_ranks_88 : decode cX4_ranks 88 = .ok (.iload 4, 2) := by decide +kernel
theorem dX4_ranks_90 : decode cX4_ranks 90 = .ok (.iconst 1, 1) := by decide +kernel
theorem dX4_ranks_91 : decode cX4_ranks 91 = .ok (.invokevirtual 34, 3) := by decide +kernel
theorem dX4_ranks_94 : decode cX4_ranks 94 = .ok (.iconst 1, 1) := by decide +kernel
theorem dX4_ranks_95 : decode cX4_ranks 95 = .ok (.if_icmp .ne 7, 3) := by decide +kernel
theorem dX4_ranks_98 : decode cX4_ranks 98 = .ok (.iconst 0, 1) := by decide +kernel
theorem dX4_ranks_99 : decode cX4_ranks 99 = .ok (.goto 10, 3) := by decide +kernel
theorem dX4_ranks_102 : decode cX4_ranks 102 = .ok (.aload_n 0, 1) := by decide +kernel
theorem dX4_ranks_103 : decode cX4_ranks 103 = .ok (.iload 4, 2) := by decide +kernel
theorem dX4_ranks_105 : decode cX4_ranks 105 = .ok (.iconst 1, 1) := by decide +kernel
theorem dX4_ranks_106 : decode cX4_ranks 106 = .ok (.invokevirtual 34, 3) := by decide +kernel
theorem dX4_ranks_109 : decode cX4_ranks 109 = .ok (.invokevirtual 60, 3) := by decide +kernel
theorem dX4_ranks_112 : decode cX4_ranks 112 = .ok (.iinc 4 1, 3) := by decide +kernel
theorem dX4_ranks_115 : decode cX4_ranks 115 = .ok (.goto (-43), 3) := by decide +kernel
theorem dX4_ranks_118 : decode cX4_ranks 118 = .ok (.iload_n 3, 1) := by decide +kernel
theorem dX4_ranks_119 : decode cX4_ranks 119 = .ok (.ireturn, 1) := by decide +kernel
theorem dX4_clears_0 : decode cX4_clears 0 = .ok (.aload_n 0, 1) := by decide +kernel
theorem dX4_clears_1 : decode cX4_clears 1 = .ok (.getfield 7, 3) := by decide +kernel
theorem dX4_clears_4 : decode cX4_clears 4 = .ok (.iconst 0, 1) := by decide +kernel
theorem dX4_clears_5 : decode cX4_clears 5 = .ok (.iaload, 1) := by decide +kernel
theorem dX4_clears_6 : decode cX4_clears 6 = .ok (.istore_n 1, 1) := by decide +kernel
theorem dX4_clears_7 : decode cX4_clears 7 = .ok (.bipush 11, 2) := by decide +kernel
theorem dX4_clears_9 : decode cX4_clears 9 = .ok (.istore_n 2, 1) := by decide +kernel
theorem dX4_clears_10 : decode cX4_clears 10 = .ok (.iload_n 2, 1) := by decide +kernel
theorem dX4_clears_11 : decode cX4_clears 11 = .ok (.sipush 251, 3) := by decide +kernel
theorem dX4_clears_14 : decode cX4_clears 14 = .ok (.if_icmp .ge 16, 3) := by decide +kernel
theorem dX4_clears_17 : decode cX4_clears 17 = .ok (.aload_n 0, 1) := by decide +kernel
theorem dX4_clears_18 : decode cX4_clears 18 = .ok (.getfield 7, 3) := by decide +kernel
theorem dX4_clears_21 : decode cX4_clears 21 = .ok (.iload_n 2, 1) := by decide +kernel
theorem dX4_clears_22 : decode cX4_clears 22 = .ok (.iconst 0, 1) := by decide +kernel
theorem dX4_clears_23 : decode cX4_clears 23 = .ok (.iastore, 1) := by decide +kernel
theorem dX4_clears_24 : decode cX4_clears 24 = .ok (.iinc 2 1, 3) := by decide +kernel
theorem dX4_clears_27 : decode cX4_clears 27 = .ok (.goto (-17), 3) := by decide +kernel
theorem dX4_clears_30 : decode cX4_clears 30 = .ok (.aload_n 0, 1) := by decide +kernel
theorem dX4_clears_31 : decode cX4_clears 31 = .ok (.getfield 7, 3) := by decide +kernel
theorem dX4_clears_34 : decode cX4_clears 34 = .ok (.iconst 0, 1) := by decide +kernel
theorem dX4_clears_35 : decode cX4_clears 35 = .ok (.iconst 0, 1) := by decide +kernel
theorem dX4_clears_36 : decode cX4_clears 36 = .ok (.iastore, 1) := by decide +kernel
theorem dX4_clears_37 : decode cX4_clears 37 = .ok (.aload_n 0, 1) := by decide +kernel
theorem dX4_clears_38 : decode cX4_clears 38 = .ok (.getfield 7, 3) := by decide +kernel
theorem dX4_clears_41 : decode cX4_clears 41 = .ok (.iconst 1, 1) := by decide +kernel
theorem dX4_clears_42 : decode cX4_clears 42 = .ok (.iconst 0, 1) := by decide +kernel
theorem dX4_clears_43 : decode cX4_clears 43 = .ok (.iastore, 1) := by decide +kernel
theorem dX4_clears_44 : decode cX4_clears 44 = .ok (.iload_n 1, 1) := by decide +kernel
theorem dX4_clears_45 : decode cX4_clears 45 = .ok (.ireturn, 1) := by decide +kernel
set_option maxRecDepth 20000 in
theorem ggX4_tell_X4_begins : GoodIn wsX4_tell wsX4_begins := goodIn_r _ [6, 7, 8, 46, 47, 48, 49, 50, 51, 52, 53] (by decide +kernel) (by decide +kernel)
set_option maxRecDepth 20000 in
theorem gX4_tell_X4_begins : GoodIn wsX4_tell (wsV RX4 88 RX4 yX4_begins wsX4_begins) := goodIn_app (goodIn_of _ (by decide +kernel)) ggX4_tell_X4_begins
set_option maxRecDepth 20000 in
theorem ggX4_tell_X4_in : GoodIn wsX4_tell wsX4_in := goodIn_r _ [11] (by decide +kernel) (by decide +kernel)
set_option maxRecDepth 20000 in
theorem gX4_tell_X4_in : GoodIn wsX4_tell (va_wsS RX4 30 yX4_in wsX4_in) := goodIn_app (goodIn_of _ (by decide +kernel)) ggX4_tell_X4_in
set_option maxRecDepth 20000 in
theorem ggX4_tell_X4_comes : GoodIn wsX4_tell wsX4_comes := goodIn_r _ [15, 8, 16, 17, 18, 5, 19, 20, 21, 22, 23, 24, 25, 26, 27, 28, 29, 30, 31, 32, 33, 34, 35, 46, 47, 48, 49, 50, 51, 52, 53] (by decide +kernel) (by decide +kernel)
set_option maxRecDepth 20000 in
theorem gX4_tell_X4_comes : GoodIn wsX4_tell (wsV RX4 71 RX4 yX4_comes wsX4_comes) := goodIn_app (goodIn_of _ (by decide +kernel)) ggX4_tell_X4_comes
set_option maxRecDepth 20000 in
theorem ggX4_tell_X4_acted : GoodIn wsX4_tell wsX4_acted := goodIn_r _ [39, 1, 40, 41, 7, 42, 43, 44, 5, 45, 8, 46, 47, 48, 49, 50, 51, 52, 53] (by decide +kernel) (by decide +kernel)
set_option maxRecDepth 20000 in
theorem gX4_tell_X4_acted : GoodIn wsX4_tell (wsV RX4 91 RX4 yX4_acted wsX4_acted) := goodIn_app (goodIn_of _ (by decide +kernel)) ggX4_tell_X4_acted
theorem dX4_tell_0 : decode cX4_tell 0 = .ok (.aload_n 0, 1) := by decide +kernel
theorem dX4_tell_1 : decode cX4_tell 1 = .ok (.invokevirtual 88, 3) := by decide +kernel
theorem dX4_tell_4 : decode cX4_tell 4 = .ok (.aload_n 0, 1) := by decide +kernel
theorem dX4_tell_5 : decode cX4_tell 5 = .ok (.iload_n 1, 1) := by decide +kernel
theorem dX4_tell_6 : decode cX4_tell 6 = .ok (.iconst 0, 1) := by decide +kernel
theorem dX4_tell_7 : decode cX4_tell 7 = .ok (.sipush 4095, 3) := by decide +kernel
theorem dX4_tell_10 : decode cX4_tell 10 = .ok (.invokestatic 30, 3) := by decide +kernel
theorem dX4_tell_13 : decode cX4_tell 13 = .ok (.ifCond .eq 14, 3) := by decide +kernel
theorem dX4_tell_16 : decode cX4_tell 16 = .ok (.aload_n 0, 1) := by decide +kernel
theorem dX4_tell_17 : decode cX4_tell 17 = .ok (.iload_n 1, 1) := by decide +kernel
theorem dX4_tell_18 : decode cX4_tell 18 = .ok (.iconst (-1), 1) := by decide +kernel
theorem dX4_tell_19 : decode cX4_tell 19 = .ok (.iconst (-1), 1) := by decide +kernel
theorem dX4_tell_20 : decode cX4_tell 20 = .ok (.iconst (-1), 1) := by decide +kernel
theorem dX4_tell_21 : decode cX4_tell 21 = .ok (.invokevirtual 71, 3) := by decide +kernel
theorem dX4_tell_24 : decode cX4_tell 24 = .ok (.goto 5, 3) := by decide +kernel
theorem dX4_tell_27 : decode cX4_tell 27 = .ok (.ldc 22, 2) := by decide +kernel
theorem dX4_tell_29 : decode cX4_tell 29 = .ok (.invokevirtual 91, 3) := by decide +kernel
theorem dX4_tell_32 : decode cX4_tell 32 = .ok (.ireturn, 1) := by decide +kernel
set_option maxRecDepth 20000 in
theorem ggX4_rank_X4_begins : GoodIn wsX4_rank wsX4_begins := goodIn_r _ [6, 7, 8, 34, 35, 36, 37, 38, 39, 40, 41] (by decide +kernel) (by decide +kernel)
set_option maxRecDepth 20000 in
theorem gX4_rank_X4_begins : GoodIn wsX4_rank (wsV RX4 88 RX4 yX4_begins wsX4_begins) := goodIn_app (goodIn_of _ (by decide +kernel)) ggX4_rank_X4_begins
set_option maxRecDepth 20000 in
theorem ggX4_rank_X4_in : GoodIn wsX4_rank wsX4_in := goodIn_r _ [11] (by decide +kernel) (by decide +kernel)
set_option maxRecDepth 20000 in
theorem gX4_rank_X4_in : GoodIn wsX4_rank (va_wsS RX4 30 yX4_in wsX4_in) := goodIn_app (goodIn_of _ (by decide +kernel)) ggX4_rank_X4_in
set_option maxRecDepth 20000 in
theorem ggX4_rank_X4_ranks : GoodIn wsX4_rank wsX4_ranks := goodIn_r _ [15, 8, 16, 17, 18, 5, 19, 20, 21, 22, 23, 34, 35, 36, 37, 38, 39, 40, 41] (by decide +kernel) (by decide +kernel)
set_option maxRecDepth 20000 in
theorem gX4_rank_X4_ranks : GoodIn wsX4_rank (wsV RX4 94 RX4 yX4_ranks wsX4_ranks) := goodIn_app (goodIn_of _ (by decide +kernel)) ggX4_rank_X4_ranks
set_option maxRecDepth 20000 in
theorem ggX4_rank_X4_acted : GoodIn wsX4_rank wsX4_acted := goodIn_r _ [27, 1, 28, 29, 7, 30, 31, 32, 5, 33, 8, 34, 35, 36, 37, 38, 39, 40, 41] (by decide +kernel) (by decide +kernel)
set_option maxRecDepth 20000 in
theorem gX4_rank_X4_acted : GoodIn wsX4_rank (wsV RX4 91 RX4 yX4_acted wsX4_acted) := goodIn_app (goodIn_of _ (by decide +kernel)) ggX4_rank_X4_acted
theorem dX4_rank_0 : decode cX4_rank 0 = .ok (.aload_n 0, 1) := by decide +kernel
theorem dX4_rank_1 : decode cX4_rank 1 = .ok (.invokevirtual 88, 3) := by decide +kernel
theorem dX4_rank_4 : decode cX4_rank 4 = .ok (.aload_n 0, 1) := by decide +kernel
theorem dX4_rank_5 : decode cX4_rank 5 = .ok (.iload_n 1, 1) := by decide +kernel
theorem dX4_rank_6 : decode cX4_rank 6 = .ok (.iconst 0, 1) := by decide +kernel
theorem dX4_rank_7 : decode cX4_rank 7 = .ok (.iconst 5, 1) := by decide +kernel
theorem dX4_rank_8 : decode cX4_rank 8 = .ok (.invokestatic 30, 3) := by decide +kernel
theorem dX4_rank_11 : decode cX4_rank 11 = .ok (.ifCond .eq 21, 3) := by decide +kernel
theorem dX4_rank_14 : decode cX4_rank 14 = .ok (.iload_n 2, 1) := by decide +kernel
theorem dX4_rank_15 : decode cX4_rank 15 = .ok (.iconst 0, 1) := by decide +kernel
theorem dX4_rank_16 : decode cX4_rank 16 = .ok (.iconst 5, 1) := by decide +kernel
theorem dX4_rank_17 : decode cX4_rank 17 = .ok (.invokestatic 30, 3) := by decide +kernel
theorem dX4_rank_20 : decode cX4_rank 20 = .ok (.ifCond .eq 12, 3) := by decide +kernel
theorem dX4_rank_23 : decode cX4_rank 23 = .ok (.aload_n 0, 1) := by decide +kernel
theorem dX4_rank_24 : decode cX4_rank 24 = .ok (.iload_n 1, 1) := by decide +kernel
theorem dX4_rank_25 : decode cX4_rank 25 = .ok (.iload_n 2, 1) := by decide +kernel
theorem dX4_rank_26 : decode cX4_rank 26 = .ok (.invokevirtual 94, 3) := by decide +kernel
theorem dX4_rank_29 : decode cX4_rank 29 = .ok (.goto 5, 3) := by decide +kernel
theorem dX4_rank_32 : decode cX4_rank 32 = .ok (.ldc 22, 2) := by decide +kernel
theorem dX4_rank_34 : decode cX4_rank 34 = .ok (.invokevirtual 91, 3) := by decide +kernel
theorem dX4_rank_37 : decode cX4_rank 37 = .ok (.ireturn, 1) := by decide +kernel
set_option maxRecDepth 20000 in
theorem ggX4_set_X4_begins : GoodIn wsX4_set wsX4_begins := goodIn_r _ [7, 8, 1, 22, 23, 24, 25, 26, 27, 28, 29] (by decide +kernel) (by decide +kernel)
set_option maxRecDepth 20000 in
theorem gX4_set_X4_begins : GoodIn wsX4_set (wsV RX4 88 RX4 yX4_begins wsX4_begins) := goodIn_app (goodIn_of _ (by decide +kernel)) ggX4_set_X4_begins
set_option maxRecDepth 20000 in
theorem ggX4_set_X4_in : GoodIn wsX4_set wsX4_in := goodIn_r _ [11] (by decide +kernel) (by decide +kernel)
set_option maxRecDepth 20000 in
theorem gX4_set_X4_in : GoodIn wsX4_set (va_wsS RX4 30 yX4_in wsX4_in) := goodIn_app (goodIn_of _ (by decide +kernel)) ggX4_set_X4_in
set_option maxRecDepth 20000 in
theorem ggX4_set_X4_acted : GoodIn wsX4_set wsX4_acted := goodIn_r _ [15, 2, 16, 17, 8, 18, 19, 20, 6, 21, 1, 22, 23, 24, 25, 26, 27, 28, 29] (by decide +kernel) (by decide +kernel)
set_option maxRecDepth 20000 in
theorem gX4_set_X4_acted : GoodIn wsX4_set (wsV RX4 91 RX4 yX4_acted wsX4_acted) := goodIn_app (goodIn_of _ (by decide +kernel)) ggX4_set_X4_acted
theorem dX4_set_0 : decode cX4_set 0 = .ok (.aload_n 0, 1) := by decide +kernel
theorem dX4_set_1 : decode cX4_set 1 = .ok (.invokevirtual 88, 3) := by decide +kernel
theorem dX4_set_4 : decode cX4_set 4 = .ok (.aload_n 0, 1) := by decide +kernel
theorem dX4_set_5 : decode cX4_set 5 = .ok (.getfield 7, 3) := by decide +kernel
theorem dX4_set_8 : decode cX4_set 8 = .ok (.iconst 2, 1) := by decide +kernel
theorem dX4_set_9 : decode cX4_set 9 = .ok (.iaload, 1) := by decide +kernel
theorem dX4_set_10 : decode cX4_set 10 = .ok (.istore_n 2, 1) := by decide +kernel
theorem dX4_set_11 : decode cX4_set 11 = .ok (.aload_n 0, 1) := by decide +kernel
theorem dX4_set_12 : decode cX4_set 12 = .ok (.getfield 7, 3) := by decide +kernel
theorem dX4_set_15 : decode cX4_set 15 = .ok (.iconst 2, 1) := by decide +kernel
theorem dX4_set_16 : decode cX4_set 16 = .ok (.iload_n 1, 1) := by decide +kernel
theorem dX4_set_17 : decode cX4_set 17 = .ok (.iconst 1, 1) := by decide +kernel
theorem dX4_set_18 : decode cX4_set 18 = .ok (.bipush 9, 2) := by decide +kernel
theorem dX4_set_20 : decode cX4_set 20 = .ok (.invokestatic 30, 3) := by decide +kernel
theorem dX4_set_23 : decode cX4_set 23 = .ok (.ifCond .eq 7, 3) := by decide +kernel
theorem dX4_set_26 : decode cX4_set 26 = .ok (.iload_n 1, 1) := by decide +kernel
theorem dX4_set_27 : decode cX4_set 27 = .ok (.goto 4, 3) := by decide +kernel
theorem dX4_set_30 : decode cX4_set 30 = .ok (.iload_n 2, 1) := by decide +kernel
theorem dX4_set_31 : decode cX4_set 31 = .ok (.iastore, 1) := by decide +kernel
theorem dX4_set_32 : decode cX4_set 32 = .ok (.aload_n 0, 1) := by decide +kernel
theorem dX4_set_33 : decode cX4_set 33 = .ok (.iload_n 1, 1) := by decide +kernel
theorem dX4_set_34 : decode cX4_set 34 = .ok (.iconst 1, 1) := by decide +kernel
theorem dX4_set_35 : decode cX4_set 35 = .ok (.bipush 9, 2) := by decide +kernel
theorem dX4_set_37 : decode cX4_set 37 = .ok (.invokestatic 30, 3) := by decide +kernel
theorem dX4_set_40 : decode cX4_set 40 = .ok (.ifCond .eq 7, 3) := by decide +kernel
theorem dX4_set_43 : decode cX4_set 43 = .ok (.iload_n 2, 1) := by decide +kernel
theorem dX4_set_44 : decode cX4_set 44 = .ok (.goto 5, 3) := by decide +kernel
theorem dX4_set_47 : decode cX4_set 47 = .ok (.ldc 22, 2) := by decide +kernel
theorem dX4_set_49 : decode cX4_set 49 = .ok (.invokevirtual 91, 3) := by decide +kernel
theorem dX4_set_52 : decode cX4_set 52 = .ok (.ireturn, 1) := by decide +kernel
set_option maxRecDepth 20000 in
theorem ggX4_step_X4_begins : GoodIn wsX4_step wsX4_begins := goodIn_r _ [5, 6, 7, 78, 79, 80, 81, 82, 83, 84, 85] (by decide +kernel) (by decide +kernel)
set_option maxRecDepth 20000 in
theorem gX4_step_X4_begins : GoodIn wsX4_step (wsV RX4 88 RX4 yX4_begins wsX4_begins) := goodIn_app (goodIn_of _ (by decide +kernel)) ggX4_step_X4_begins
set_option maxRecDepth 20000 in
theorem ggX4_step_X4_steps : GoodIn wsX4_step wsX4_steps := goodIn_r _ [11, 12, 7, 13, 14, 15, 16, 4, 17, 18, 19, 20, 21, 22, 23, 24, 25, 26, 27, 28, 29, 30, 31, 32, 33, 34, 35, 36, 37, 38, 39, 40, 41, 42, 43, 44, 45, 46, 47, 48, 49, 50, 51, 52, 53, 54, 55, 56, 57, 58, 59, 60, 61, 62, 63, 64, 65, 66, 78, 79, 80, 81, 82, 83, 84, 85] (by decide +kernel) (by decide +kernel)
set_option maxRecDepth 20000 in
theorem gX4_step_X4_steps : GoodIn wsX4_step (wsV RX4 85 RX4 yX4_steps wsX4_steps) := goodIn_app (goodIn_of _ (by decide +kernel)) ggX4_step_X4_steps
set_option maxRecDepth 20000 in
theorem ggX4_step_X4_acted : GoodIn wsX4_step wsX4_acted := goodIn_r _ [70, 71, 72, 73, 6, 74, 75, 76, 4, 77, 7, 78, 79, 80, 81, 82, 83, 84, 85] (by decide +kernel) (by decide +kernel)
set_option maxRecDepth 20000 in
theorem gX4_step_X4_acted : GoodIn wsX4_step (wsV RX4 91 RX4 yX4_acted wsX4_acted) := goodIn_app (goodIn_of _ (by decide +kernel)) ggX4_step_X4_acted
theorem dX4_step_0 : decode cX4_step 0 = .ok (.aload_n 0, 1) := by decide +kernel
theorem dX4_step_1 : decode cX4_step 1 = .ok (.invokevirtual 88, 3) := by decide +kernel
theorem dX4_step_4 : decode cX4_step 4 = .ok (.aload_n 0, 1) := by decide +kernel
theorem dX4_step_5 : decode cX4_step 5 = .ok (.aload_n 0, 1) := by decide +kernel
theorem dX4_step_6 : decode cX4_step 6 = .ok (.invokevirtual 85, 3) := by decide +kernel
theorem dX4_step_9 : decode cX4_step 9 = .ok (.invokevirtual 91, 3) := by decide +kernel
theorem dX4_step_12 : decode cX4_step 12 = .ok (.ireturn, 1) := by decide +kernel
set_option maxRecDepth 20000 in
theorem ggX4_run_X4_begins : GoodIn wsX4_run wsX4_begins := goodIn_r _ [6, 7, 8, 85, 86, 87, 88, 89, 90, 91, 92] (by decide +kernel) (by decide +kernel)
set_option maxRecDepth 20000 in
theorem gX4_run_X4_begins : GoodIn wsX4_run (wsV RX4 88 RX4 yX4_begins wsX4_begins) := goodIn_app (goodIn_of _ (by decide +kernel)) ggX4_run_X4_begins
set_option maxRecDepth 20000 in
theorem ggX4_run_X4_in : GoodIn wsX4_run wsX4_in := goodIn_r _ [11] (by decide +kernel) (by decide +kernel)
set_option maxRecDepth 20000 in
theorem gX4_run_X4_in : GoodIn wsX4_run (va_wsS RX4 30 yX4_in wsX4_in) := goodIn_app (goodIn_of _ (by decide +kernel)) ggX4_run_X4_in
set_option maxRecDepth 20000 in
theorem ggX4_run_X4_runs : GoodIn wsX4_run wsX4_runs := goodIn_r _ [15, 16, 17, 18, 19, 20, 5, 21, 8, 22, 23, 24, 25, 26, 27, 28, 29, 30, 31, 32, 33, 34, 35, 36, 37, 38, 39, 40, 41, 42, 43, 44, 45, 46, 47, 48, 49, 50, 51, 52, 53, 54, 55, 56, 57, 58, 59, 60, 61, 62, 63, 64, 65, 66, 67, 68, 69, 70, 71, 72, 73, 74, 85, 86, 87, 88, 89, 90, 91, 92] (by decide +kernel) (by decide +kernel)
set_option maxRecDepth 20000 in
theorem gX4_run_X4_runs : GoodIn wsX4_run (wsV RX4 97 RX4 yX4_runs wsX4_runs) := goodIn_app (goodIn_of _ (by decide +kernel)) ggX4_run_X4_runs
set_option maxRecDepth 20000 in
theorem ggX4_run_X4_acted : GoodIn wsX4_run wsX4_acted := goodIn_r _ [78, 1, 79, 80, 7, 81, 82, 83, 5, 84, 8, 85, 86, 87, 88, 89, 90, 91, 92] (by decide +kernel) (by decide +kernel)
set_option maxRecDepth 20000 in
theorem gX4_run_X4_acted : GoodIn wsX4_run (wsV RX4 91 RX4 yX4_acted wsX4_acted) := goodIn_app (goodIn_of _ (by decide +kernel)) ggX4_run_X4_acted
theorem dX4_run_0 : decode cX4_run 0 = .ok (.aload_n 0, 1) := by decide +kernel
theorem dX4_run_1 : decode cX4_run 1 = .ok (.invokevirtual 88, 3) := by decide +kernel
theorem dX4_run_4 : decode cX4_run 4 = .ok (.aload_n 0, 1) := by decide +kernel
theorem dX4_run_5 : decode cX4_run 5 = .ok (.iload_n 1, 1) := by decide +kernel
theorem dX4_run_6 : decode cX4_run 6 = .ok (.iconst 1, 1) := by decide +kernel
theorem dX4_run_7 : decode cX4_run 7 = .ok (.bipush 40, 2) := by decide +kernel
theorem dX4_run_9 : decode cX4_run 9 = .ok (.invokestatic 30, 3) := by decide +kernel
theorem dX4_run_12 : decode cX4_run 12 = .ok (.ifCond .eq 11, 3) := by decide +kernel
theorem dX4_run_15 : decode cX4_run 15 = .ok (.aload_n 0, 1) := by decide +kernel
theorem dX4_run_16 : decode cX4_run 16 = .ok (.iload_n 1, 1) := by decide +kernel
theorem dX4_run_17 : decode cX4_run 17 = .ok (.invokevirtual 97, 3) := by decide +kernel
theorem dX4_run_20 : decode cX4_run 20 = .ok (.goto 5, 3) := by decide +kernel
theorem dX4_run_23 : decode cX4_run 23 = .ok (.ldc 22, 2) := by decide +kernel
theorem dX4_run_25 : decode cX4_run 25 = .ok (.invokevirtual 91, 3) := by decide +kernel
theorem dX4_run_28 : decode cX4_run 28 = .ok (.ireturn, 1) := by decide +kernel
set_option maxRecDepth 20000 in
theorem ggX4_empty_X4_begins : GoodIn wsX4_empty wsX4_begins := goodIn_r _ [5, 6, 7, 23, 24, 25, 26, 27, 28, 29, 30] (by decide +kernel) (by decide +kernel)
set_option maxRecDepth 20000 in
theorem gX4_empty_X4_begins : GoodIn wsX4_empty (wsV RX4 88 RX4 yX4_begins wsX4_begins) := goodIn_app (goodIn_of _ (by decide +kernel)) ggX4_empty_X4_begins
set_option maxRecDepth 20000 in
theorem ggX4_empty_X4_clears : GoodIn wsX4_empty wsX4_clears := goodIn_r _ [11, 7, 23, 24, 25, 26, 27, 28, 29, 30] (by decide +kernel) (by decide +kernel)
set_option maxRecDepth 20000 in
theorem gX4_empty_X4_clears : GoodIn wsX4_empty (wsV RX4 100 RX4 yX4_clears wsX4_clears) := goodIn_app (goodIn_of _ (by decide +kernel)) ggX4_empty_X4_clears
set_option maxRecDepth 20000 in
theorem ggX4_empty_X4_acted : GoodIn wsX4_empty wsX4_acted := goodIn_r _ [15, 16, 17, 18, 6, 19, 20, 21, 4, 22, 7, 23, 24, 25, 26, 27, 28, 29, 30] (by decide +kernel) (by decide +kernel)
set_option maxRecDepth 20000 in
theorem gX4_empty_X4_acted : GoodIn wsX4_empty (wsV RX4 91 RX4 yX4_acted wsX4_acted) := goodIn_app (goodIn_of _ (by decide +kernel)) ggX4_empty_X4_acted
theorem dX4_empty_0 : decode cX4_empty 0 = .ok (.aload_n 0, 1) := by decide +kernel
theorem dX4_empty_1 : decode cX4_empty 1 = .ok (.invokevirtual 88, 3) := by decide +kernel
theorem dX4_empty_4 : decode cX4_empty 4 = .ok (.aload_n 0, 1) := by decide +kernel
theorem dX4_empty_5 : decode cX4_empty 5 = .ok (.aload_n 0, 1) := by decide +kernel
theorem dX4_empty_6 : decode cX4_empty 6 = .ok (.invokevirtual 100, 3) := by decide +kernel
theorem dX4_empty_9 : decode cX4_empty 9 = .ok (.invokevirtual 91, 3) := by decide +kernel
theorem dX4_empty_12 : decode cX4_empty 12 = .ok (.ireturn, 1) := by decide +kernel
set_option maxRecDepth 20000 in
theorem ggX4_lessOnes_X4_isKept : GoodIn wsX4_lessOnes wsX4_isKept := goodIn_r _ [6, 7, 8, 9, 5, 10, 1, 26, 27, 28, 29, 30, 31, 32, 33] (by decide +kernel) (by decide +kernel)
set_option maxRecDepth 20000 in
theorem gX4_lessOnes_X4_isKept : GoodIn wsX4_lessOnes (wsV RX4 49 RX4 yX4_isKept wsX4_isKept) := goodIn_app (goodIn_of _ (by decide +kernel)) ggX4_lessOnes_X4_isKept
set_option maxRecDepth 20000 in
theorem ggX4_lessOnes_X4_of : GoodIn wsX4_lessOnes wsX4_of := goodIn_r _ [10, 1, 26, 27, 28, 29, 30, 31, 32, 33] (by decide +kernel) (by decide +kernel)
set_option maxRecDepth 20000 in
theorem gX4_lessOnes_X4_of : GoodIn wsX4_lessOnes (wsV RX4 34 RX4 yX4_of wsX4_of) := goodIn_app (goodIn_of _ (by decide +kernel)) ggX4_lessOnes_X4_of
set_option maxRecDepth 20000 in
theorem ggX4_lessOnes_X4_isLess : GoodIn wsX4_lessOnes wsX4_isLess := goodIn_r _ [14, 15, 16, 17, 5, 18, 19, 20, 21, 22, 23, 24, 25, 1, 26, 27, 28, 29, 30, 31, 32, 33] (by decide +kernel) (by decide +kernel)
set_option maxRecDepth 20000 in
theorem gX4_lessOnes_X4_isLess : GoodIn wsX4_lessOnes (wsV RX4 103 RX4 yX4_isLess wsX4_isLess) := goodIn_app (goodIn_of _ (by decide +kernel)) ggX4_lessOnes_X4_isLess
theorem dX4_lessOnes_0 : decode cX4_lessOnes 0 = .ok (.iconst 0, 1) := by decide +kernel
theorem dX4_lessOnes_1 : decode cX4_lessOnes 1 = .ok (.istore_n 2, 1) := by decide +kernel
theorem dX4_lessOnes_2 : decode cX4_lessOnes 2 = .ok (.iconst 0, 1) := by decide +kernel
theorem dX4_lessOnes_3 : decode cX4_lessOnes 3 = .ok (.istore_n 3, 1) := by decide +kernel
theorem dX4_lessOnes_4 : decode cX4_lessOnes 4 = .ok (.iload_n 3, 1) := by decide +kernel
theorem dX4_lessOnes_5 : decode cX4_lessOnes 5 = .ok (.aload_n 0, 1) := by decide +kernel
theorem dX4_lessOnes_6 : decode cX4_lessOnes 6 = .ok (.getfield 7, 3) := by decide +kernel
theorem dX4_lessOnes_9 : decode cX4_lessOnes 9 = .ok (.iconst 0, 1) := by decide +kernel
theorem dX4_lessOnes_10 : decode cX4_lessOnes 10 = .ok (.iaload, 1) := by decide +kernel
theorem dX4_lessOnes_11 : decode cX4_lessOnes 11 = .ok (.if_icmp .ge 44, 3) := by decide +kernel
theorem dX4_lessOnes_14 : decode cX4_lessOnes 14 = .ok (.iload_n 2, 1) := by decide +kernel
theorem dX4_lessOnes_15 : decode cX4_lessOnes 15 = .ok (.aload_n 0, 1) := by decide +kernel
theorem dX4_lessOnes_16 : decode cX4_lessOnes 16 = .ok (.iload_n 3, 1) := by decide +kernel
theorem dX4_lessOnes_17 : decode cX4_lessOnes 17 = .ok (.invokevirtual 49, 3) := by decide +kernel
theorem dX4_lessOnes_20 : decode cX4_lessOnes 20 = .ok (.ifCond .eq 26, 3) := by decide +kernel
theorem dX4_lessOnes_23 : decode cX4_lessOnes 23 = .ok (.aload_n 0, 1) := by decide +kernel
theorem dX4_lessOnes_24 : decode cX4_lessOnes 24 = .ok (.aload_n 0, 1) := by decide +kernel
theorem dX4_lessOnes_25 : decode cX4_lessOnes 25 = .ok (.iload_n 3, 1) := by decide +kernel
theorem dX4_lessOnes_26 : decode cX4_lessOnes 26 = .ok (.iconst 0, 1) := by decide +kernel
theorem dX4_lessOnes_27 : decode cX4_lessOnes 27 = .ok (.invokevirtual 34, 3) := by decide +kernel
theorem dX4_lessOnes_30 : decode cX4_lessOnes 30 = .ok (.aload_n 0, 1) := by decide +kernel
theorem dX4_lessOnes_31 : decode cX4_lessOnes 31 = .ok (.iload_n 1, 1) := by decide +kernel
theorem dX4_lessOnes_32 : decode cX4_lessOnes 32 = .ok (.iconst 0, 1) := by decide +kernel
theorem dX4_lessOnes_33 : decode cX4_lessOnes 33 = .ok (.invokevirtual 34, 3) := by decide +kernel
theorem dX4_lessOnes_36 : decode cX4_lessOnes 36 = .ok (.invokevirtual 103, 3) := by decide +kernel
theorem dX4_lessOnes_39 : decode cX4_lessOnes 39 = .ok (.ifCond .eq 7, 3) := by decide +kernel
theorem dX4_lessOnes_42 : decode cX4_lessOnes 42 = .ok (.iconst 1, 1) := by decide +kernel
theorem dX4_lessOnes_43 : decode cX4_lessOnes 43 = .ok (.goto 4, 3) := by decide +kernel
theorem dX4_lessOnes_46 : decode cX4_lessOnes 46 = .ok (.iconst 0, 1) := by decide +kernel
theorem dX4_lessOnes_47 : decode cX4_lessOnes 47 = .ok (.iadd, 1) := by decide +kernel
theorem dX4_lessOnes_48 : decode cX4_lessOnes 48 = .ok (.istore_n 2, 1) := by decide +kernel
theorem dX4_lessOnes_49 : decode cX4_lessOnes 49 = .ok (.iinc 3 1, 3) := by decide +kernel
theorem dX4_lessOnes_52 : decode cX4_lessOnes 52 = .ok (.goto (-48), 3) := by decide +kernel
theorem dX4_lessOnes_55 : decode cX4_lessOnes 55 = .ok (.iload_n 2, 1) := by decide +kernel
theorem dX4_lessOnes_56 : decode cX4_lessOnes 56 = .ok (.ireturn, 1) := by decide +kernel
set_option maxRecDepth 20000 in
theorem ggX4_parentOf_X4_of : GoodIn wsX4_parentOf wsX4_of := goodIn_r _ [6, 7, 8, 9, 10, 11, 12, 13, 14, 15] (by decide +kernel) (by decide +kernel)
set_option maxRecDepth 20000 in
theorem gX4_parentOf_X4_of : GoodIn wsX4_parentOf (wsV RX4 34 RX4 yX4_of wsX4_of) := goodIn_app (goodIn_of _ (by decide +kernel)) ggX4_parentOf_X4_of
theorem dX4_parentOf_0 : decode cX4_parentOf 0 = .ok (.aload_n 0, 1) := by decide +kernel
theorem dX4_parentOf_1 : decode cX4_parentOf 1 = .ok (.iload_n 1, 1) := by decide +kernel
theorem dX4_parentOf_2 : decode cX4_parentOf 2 = .ok (.iconst 2, 1) := by decide +kernel
theorem dX4_parentOf_3 : decode cX4_parentOf 3 = .ok (.invokevirtual 34, 3) := by decide +kernel
theorem dX4_parentOf_6 : decode cX4_parentOf 6 = .ok (.ifCond .ne 6, 3) := by decide +kernel
theorem dX4_parentOf_9 : decode cX4_parentOf 9 = .ok (.ldc 106, 2) := by decide +kernel
theorem dX4_parentOf_11 : decode cX4_parentOf 11 = .ok (.ireturn, 1) := by decide +kernel
theorem dX4_parentOf_12 : decode cX4_parentOf 12 = .ok (.iload_n 2, 1) := by decide +kernel
theorem dX4_parentOf_13 : decode cX4_parentOf 13 = .ok (.iconst 5, 1) := by decide +kernel
theorem dX4_parentOf_14 : decode cX4_parentOf 14 = .ok (.if_icmp .ne 12, 3) := by decide +kernel
theorem dX4_parentOf_17 : decode cX4_parentOf 17 = .ok (.aload_n 0, 1) := by decide +kernel
theorem dX4_parentOf_18 : decode cX4_parentOf 18 = .ok (.iload_n 1, 1) := by decide +kernel
theorem dX4_parentOf_19 : decode cX4_parentOf 19 = .ok (.iconst 4, 1) := by decide +kernel
theorem dX4_parentOf_20 : decode cX4_parentOf 20 = .ok (.invokevirtual 34, 3) := by decide +kernel
theorem dX4_parentOf_23 : decode cX4_parentOf 23 = .ok (.goto 13, 3) := by decide +kernel
theorem dX4_parentOf_26 : decode cX4_parentOf 26 = .ok (.aload_n 0, 1) := by decide +kernel
theorem dX4_parentOf_27 : decode cX4_parentOf 27 = .ok (.iload_n 1, 1) := by decide +kernel
theorem dX4_parentOf_28 : decode cX4_parentOf 28 = .ok (.iload_n 2, 1) := by decide +kernel
theorem dX4_parentOf_29 : decode cX4_parentOf 29 = .ok (.iconst 1, 1) := by decide +kernel
theorem dX4_parentOf_30 : decode cX4_parentOf 30 = .ok (.isub, 1) := by decide +kernel
theorem dX4_parentOf_31 : decode cX4_parentOf 31 = .ok (.invokevirtual 34, 3) := by decide +kernel
theorem dX4_parentOf_34 : decode cX4_parentOf 34 = .ok (.iconst 1, 1) := by decide +kernel
theorem dX4_parentOf_35 : decode cX4_parentOf 35 = .ok (.isub, 1) := by decide +kernel
theorem dX4_parentOf_36 : decode cX4_parentOf 36 = .ok (.ireturn, 1) := by decide +kernel
set_option maxRecDepth 20000 in
theorem ggX4_clauseOf_X4_isClause : GoodIn wsX4_clauseOf wsX4_isClause := goodIn_r _ [7, 8, 9, 10, 6, 11, 46, 47, 48, 49, 50, 51, 52, 53] (by decide +kernel) (by decide +kernel)
set_option maxRecDepth 20000 in
theorem gX4_clauseOf_X4_isClause : GoodIn wsX4_clauseOf (wsV RX4 107 RX4 yX4_isClause wsX4_isClause) := goodIn_app (goodIn_of _ (by decide +kernel)) ggX4_clauseOf_X4_isClause
set_option maxRecDepth 20000 in
theorem ggX4_clauseOf_X4_in : GoodIn wsX4_clauseOf wsX4_in := goodIn_r _ [11] (by decide +kernel) (by decide +kernel)
set_option maxRecDepth 20000 in
theorem gX4_clauseOf_X4_in : GoodIn wsX4_clauseOf (va_wsS RX4 30 yX4_in wsX4_in) := goodIn_app (goodIn_of _ (by decide +kernel)) ggX4_clauseOf_X4_in
set_option maxRecDepth 20000 in
theorem ggX4_clauseOf_X4_of : GoodIn wsX4_clauseOf wsX4_of := goodIn_r _ [15, 8, 46, 47, 48, 49, 50, 51, 52, 53] (by decide +kernel) (by decide +kernel)
set_option maxRecDepth 20000 in
theorem gX4_clauseOf_X4_of : GoodIn wsX4_clauseOf (wsV RX4 34 RX4 yX4_of wsX4_of) := goodIn_app (goodIn_of _ (by decide +kernel)) ggX4_clauseOf_X4_of
set_option maxRecDepth 20000 in
theorem ggX4_clauseOf_X4_greatest : GoodIn wsX4_clauseOf wsX4_greatest := goodIn_r _ [19, 20, 21, 6, 22, 23, 24, 25, 26, 8, 46, 47, 48, 49, 50, 51, 52, 53] (by decide +kernel) (by decide +kernel)
set_option maxRecDepth 20000 in
theorem gX4_clauseOf_X4_greatest : GoodIn wsX4_clauseOf (wsV RX4 46 RX4 yX4_greatest wsX4_greatest) := goodIn_app (goodIn_of _ (by decide +kernel)) ggX4_clauseOf_X4_greatest
set_option maxRecDepth 20000 in
theorem ggX4_clauseOf_X4_parentOf : GoodIn wsX4_clauseOf wsX4_parentOf := goodIn_r _ [30, 2, 12, 13, 14, 6, 15, 8, 46, 47, 48, 49, 50, 51, 52, 53] (by decide +kernel) (by decide +kernel)
set_option maxRecDepth 20000 in
theorem gX4_clauseOf_X4_parentOf : GoodIn wsX4_clauseOf (wsV RX4 110 RX4 yX4_parentOf wsX4_parentOf) := goodIn_app (goodIn_of _ (by decide +kernel)) ggX4_clauseOf_X4_parentOf
set_option maxRecDepth 20000 in
theorem ggX4_clauseOf_X4_ones : GoodIn wsX4_clauseOf wsX4_ones := goodIn_r _ [33] (by decide +kernel) (by decide +kernel)
set_option maxRecDepth 20000 in
theorem gX4_clauseOf_X4_ones : GoodIn wsX4_clauseOf (va_wsS RX4 64 yX4_ones wsX4_ones) := goodIn_app (goodIn_of _ (by decide +kernel)) ggX4_clauseOf_X4_ones
set_option maxRecDepth 20000 in
theorem ggX4_clauseOf_X4_lessOnes : GoodIn wsX4_clauseOf wsX4_lessOnes := goodIn_r _ [37, 8, 38, 39, 40, 6, 41, 12, 13, 14, 15, 42, 43, 44, 45, 16, 17, 18, 19, 20, 21, 22, 23, 24, 25, 26, 46, 47, 48, 49, 50, 51, 52, 53] (by decide +kernel) (by decide +kernel)
set_option maxRecDepth 20000 in
theorem gX4_clauseOf_X4_lessOnes : GoodIn wsX4_clauseOf (wsV RX4 113 RX4 yX4_lessOnes wsX4_lessOnes) := goodIn_app (goodIn_of _ (by decide +kernel)) ggX4_clauseOf_X4_lessOnes
theorem dX4_clauseOf_0 : decode cX4_clauseOf 0 = .ok (.aload_n 0, 1) := by decide +kernel
theorem dX4_clauseOf_1 : decode cX4_clauseOf 1 = .ok (.iload_n 1, 1) := by decide +kernel
theorem dX4_clauseOf_2 : decode cX4_clauseOf 2 = .ok (.invokevirtual 107, 3) := by decide +kernel
theorem dX4_clauseOf_5 : decode cX4_clauseOf 5 = .ok (.ifCond .eq 13, 3) := by decide +kernel
theorem dX4_clauseOf_8 : decode cX4_clauseOf 8 = .ok (.iload_n 2, 1) := by decide +kernel
theorem dX4_clauseOf_9 : decode cX4_clauseOf 9 = .ok (.iconst 0, 1) := by decide +kernel
theorem dX4_clauseOf_10 : decode cX4_clauseOf 10 = .ok (.bipush 8, 2) := by decide +kernel
theorem dX4_clauseOf_12 : decode cX4_clauseOf 12 = .ok (.invokestatic 30, 3) := by decide +kernel
theorem dX4_clauseOf_15 : decode cX4_clauseOf 15 = .ok (.ifCond .ne 6, 3) := by decide +kernel
theorem dX4_clauseOf_18 : decode cX4_clauseOf 18 = .ok (.ldc 22, 2) := by decide +kernel
theorem dX4_clauseOf_20 : decode cX4_clauseOf 20 = .ok (.ireturn, 1) := by decide +kernel
theorem dX4_clauseOf_21 : decode cX4_clauseOf 21 = .ok (.iload_n 2, 1) := by decide +kernel
theorem dX4_clauseOf_22 : decode cX4_clauseOf 22 = .ok (.tableswitch 101 0 7 #[46, 46, 53, 78, 78, 78, 85, 95], 46) := by decide +kernel
theorem dX4_clauseOf_68 : decode cX4_clauseOf 68 = .ok (.aload_n 0, 1) := by decide +kernel
theorem dX4_clauseOf_69 : decode cX4_clauseOf 69 = .ok (.iload_n 1, 1) := by decide +kernel
theorem dX4_clauseOf_70 : decode cX4_clauseOf 70 = .ok (.iload_n 2, 1) := by decide +kernel
theorem dX4_clauseOf_71 : decode cX4_clauseOf 71 = .ok (.invokevirtual 34, 3) := by decide +kernel
theorem dX4_clauseOf_74 : decode cX4_clauseOf 74 = .ok (.ireturn, 1) := by decide +kernel
theorem dX4_clauseOf_75 : decode cX4_clauseOf 75 = .ok (.aload_n 0, 1) := by decide +kernel
theorem dX4_clauseOf_76 : decode cX4_clauseOf 76 = .ok (.iload_n 1, 1) := by decide +kernel
theorem dX4_clauseOf_77 : decode cX4_clauseOf 77 = .ok (.iconst 0, 1) := by decide +kernel
theorem dX4_clauseOf_78 : decode cX4_clauseOf 78 = .ok (.invokevirtual 34, 3) := by decide +kernel
theorem dX4_clauseOf_81 : decode cX4_clauseOf 81 = .ok (.ifCond .ne 8, 3) := by decide +kernel
theorem dX4_clauseOf_84 : decode cX4_clauseOf 84 = .ok (.ldc 106, 2) := by decide +kernel
theorem dX4_clauseOf_86 : decode cX4_clauseOf 86 = .ok (.goto 13, 3) := by decide +kernel
theorem dX4_clauseOf_89 : decode cX4_clauseOf 89 = .ok (.aload_n 0, 1) := by decide +kernel
theorem dX4_clauseOf_90 : decode cX4_clauseOf 90 = .ok (.aload_n 0, 1) := by decide +kernel
theorem dX4_clauseOf_91 : decode cX4_clauseOf 91 = .ok (.iload_n 1, 1) := by decide +kernel
theorem dX4_clauseOf_92 : decode cX4_clauseOf 92 = .ok (.iconst 0, 1) := by decide +kernel
theorem dX4_clauseOf_93 : decode cX4_clauseOf 93 = .ok (.invokevirtual 34, 3) := by decide +kernel
theorem dX4_clauseOf_96 : decode cX4_clauseOf 96 = .ok (.invokevirtual 46, 3) := by decide +kernel
theorem dX4_clauseOf_99 : decode cX4_clauseOf 99 = .ok (.ireturn, 1) := by decide +kernel
theorem dX4_clauseOf_100 : decode cX4_clauseOf 100 = .ok (.aload_n 0, 1) := by decide +kernel
theorem dX4_clauseOf_101 : decode cX4_clauseOf 101 = .ok (.iload_n 1, 1) := by decide +kernel
theorem dX4_clauseOf_102 : decode cX4_clauseOf 102 = .ok (.iload_n 2, 1) := by decide +kernel
theorem dX4_clauseOf_103 : decode cX4_clauseOf 103 = .ok (.invokevirtual 110, 3) := by decide +kernel
theorem dX4_clauseOf_106 : decode cX4_clauseOf 106 = .ok (.ireturn, 1) := by decide +kernel
theorem dX4_clauseOf_107 : decode cX4_clauseOf 107 = .ok (.aload_n 0, 1) := by decide +kernel
theorem dX4_clauseOf_108 : decode cX4_clauseOf 108 = .ok (.iload_n 1, 1) := by decide +kernel
theorem dX4_clauseOf_109 : decode cX4_clauseOf 109 = .ok (.iconst 0, 1) := by decide +kernel
theorem dX4_clauseOf_110 : decode cX4_clauseOf 110 = .ok (.invokevirtual 34, 3) := by decide +kernel
theorem dX4_clauseOf_113 : decode cX4_clauseOf 113 = .ok (.invokestatic 64, 3) := by decide +kernel
theorem dX4_clauseOf_116 : decode cX4_clauseOf 116 = .ok (.ireturn, 1) := by decide +kernel
theorem dX4_clauseOf_117 : decode cX4_clauseOf 117 = .ok (.aload_n 0, 1) := by decide +kernel
theorem dX4_clauseOf_118 : decode cX4_clauseOf 118 = .ok (.iload_n 1, 1) := by decide +kernel
theorem dX4_clauseOf_119 : decode cX4_clauseOf 119 = .ok (.invokevirtual 113, 3) := by decide +kernel
theorem dX4_clauseOf_122 : decode cX4_clauseOf 122 = .ok (.ireturn, 1) := by decide +kernel
theorem dX4_clauseOf_123 : decode cX4_clauseOf 123 = .ok (.aload_n 0, 1) := by decide +kernel
theorem dX4_clauseOf_124 : decode cX4_clauseOf 124 = .ok (.iload_n 1, 1) := by decide +kernel
theorem dX4_clauseOf_125 : decode cX4_clauseOf 125 = .ok (.iconst 5, 1) := by decide +kernel
theorem dX4_clauseOf_126 : decode cX4_clauseOf 126 = .ok (.invokevirtual 34, 3) := by decide +kernel
theorem dX4_clauseOf_129 : decode cX4_clauseOf 129 = .ok (.ireturn, 1) := by decide +kernel
theorem dX4_isIn_0 : decode cX4_isIn 0 = .ok (.lload_n 0, 1) := by decide +kernel
theorem dX4_isIn_1 : decode cX4_isIn 1 = .ok (.iload_n 2, 1) := by decide +kernel
theorem dX4_isIn_2 : decode cX4_isIn 2 = .ok (.lshr, 1) := by decide +kernel
theorem dX4_isIn_3 : decode cX4_isIn 3 = .ok (.lconst 1, 1) := by decide +kernel
theorem dX4_isIn_4 : decode cX4_isIn 4 = .ok (.land, 1) := by decide +kernel
theorem dX4_isIn_5 : decode cX4_isIn 5 = .ok (.lconst 1, 1) := by decide +kernel
theorem dX4_isIn_6 : decode cX4_isIn 6 = .ok (.lcmp, 1) := by decide +kernel
theorem dX4_isIn_7 : decode cX4_isIn 7 = .ok (.ifCond .ne 7, 3) := by decide +kernel
theorem dX4_isIn_10 : decode cX4_isIn 10 = .ok (.iconst 1, 1) := by decide +kernel
theorem dX4_isIn_11 : decode cX4_isIn 11 = .ok (.goto 4, 3) := by decide +kernel
theorem dX4_isIn_14 : decode cX4_isIn 14 = .ok (.iconst 0, 1) := by decide +kernel
theorem dX4_isIn_15 : decode cX4_isIn 15 = .ok (.ireturn, 1) := by decide +kernel
set_option maxRecDepth 20000 in
theorem ggX4_treeOf_X4_isIn : GoodIn wsX4_treeOf wsX4_isIn := goodIn_r _ [4] (by decide +kernel) (by decide +kernel)
set_option maxRecDepth 20000 in
theorem gX4_treeOf_X4_isIn : GoodIn wsX4_treeOf (va_wsS RX4 116 yX4_isIn wsX4_isIn) := goodIn_app (goodIn_of _ (by decide +kernel)) ggX4_treeOf_X4_isIn
set_option maxRecDepth 20000 in
theorem ggX4_treeOf_X4_of : GoodIn wsX4_treeOf wsX4_of := goodIn_r _ [8, 9, 10, 11, 12, 13, 14, 15, 16, 17] (by decide +kernel) (by decide +kernel)
set_option maxRecDepth 20000 in
theorem gX4_treeOf_X4_of : GoodIn wsX4_treeOf (wsV RX4 34 RX4 yX4_of wsX4_of) := goodIn_app (goodIn_of _ (by decide +kernel)) ggX4_treeOf_X4_of
theorem dX4_treeOf_0 : decode cX4_treeOf 0 = .ok (.lconst 1, 1) := by decide +kernel
theorem dX4_treeOf_1 : decode cX4_treeOf 1 = .ok (.iload_n 1, 1) := by decide +kernel
theorem dX4_treeOf_2 : decode cX4_treeOf 2 = .ok (.lshl, 1) := by decide +kernel
theorem dX4_treeOf_3 : decode cX4_treeOf 3 = .ok (.lstore_n 2, 1) := by decide +kernel
theorem dX4_treeOf_4 : decode cX4_treeOf 4 = .ok (.iload_n 1, 1) := by decide +kernel
theorem dX4_treeOf_5 : decode cX4_treeOf 5 = .ok (.istore 4, 2) := by decide +kernel
theorem dX4_treeOf_7 : decode cX4_treeOf 7 = .ok (.iload 4, 2) := by decide +kernel
theorem dX4_treeOf_9 : decode cX4_treeOf 9 = .ok (.ifCond .lt 54, 3) := by decide +kernel
theorem dX4_treeOf_12 : decode cX4_treeOf 12 = .ok (.lload_n 2, 1) := by decide +kernel
theorem dX4_treeOf_13 : decode cX4_treeOf 13 = .ok (.iload 4, 2) := by decide +kernel
theorem dX4_treeOf_15 : decode cX4_treeOf 15 = .ok (.invokestatic 116, 3) := by decide +kernel
theorem dX4_treeOf_18 : decode cX4_treeOf 18 = .ok (.ifCond .eq 39, 3) := by decide +kernel
theorem dX4_treeOf_21 : decode cX4_treeOf 21 = .ok (.aload_n 0, 1) := by decide +kernel
theorem dX4_treeOf_22 : decode cX4_treeOf 22 = .ok (.iload 4, 2) := by decide +kernel
theorem dX4_treeOf_24 : decode cX4_treeOf 24 = .ok (.iconst 2, 1) := by decide +kernel
theorem dX4_treeOf_25 : decode cX4_treeOf 25 = .ok (.invokevirtual 34, 3) := by decide +kernel
theorem dX4_treeOf_28 : decode cX4_treeOf 28 = .ok (.ifCond .le 29, 3) := by decide +kernel
theorem dX4_treeOf_31 : decode cX4_treeOf 31 = .ok (.lload_n 2, 1) := by decide +kernel
theorem dX4_treeOf_32 : decode cX4_treeOf 32 = .ok (.lconst 1, 1) := by decide +kernel
theorem dX4_treeOf_33 : decode cX4_treeOf 33 = .ok (.aload_n 0, 1) := by decide +kernel
theorem dX4_treeOf_34 : decode cX4_treeOf 34 = .ok (.iload 4, 2) := by decide +kernel
theorem dX4_treeOf_36 : decode cX4_treeOf 36 = .ok (.iconst 2, 1) := by decide +kernel
theorem dX4_treeOf_37 : decode cX4_treeOf 37 = .ok (.invokevirtual 34, 3) := by decide +kernel
theorem dX4_treeOf_40 : decode cX4_treeOf 40 = .ok (.iconst 1, 1) := by decide +kernel
theorem dX4_treeOf_41 : decode cX4_treeOf 41 = .ok (.isub, 1) := by decide +kernel
theorem dX4_treeOf_42 : decode cX4_treeOf 42 = .ok (.lshl, 1) := by decide +kernel
theorem dX4_treeOf_43 : decode cX4_treeOf 43 = .ok (.lconst 1, 1) := by decide +kernel
theorem dX4_treeOf_44 : decode cX4_treeOf 44 = .ok (.aload_n 0, 1) := by decide +kernel
theorem dX4_treeOf_45 : decode cX4_treeOf 45 = .ok (.iload 4, 2) := by decide +kernel
theorem dX4_treeOf_47 : decode cX4_treeOf 47 = .ok (.iconst 3, 1) := by decide +kernel
theorem dX4_treeOf_48 : decode cX4_treeOf 48 = .ok (.invokevirtual 34, 3) := by decide +kernel
theorem dX4_treeOf_51 : decode cX4_treeOf 51 = .ok (.iconst 1, 1) := by decide +kernel
theorem dX4_treeOf_52 : decode cX4_treeOf 52 = .ok (.isub, 1) := by decide +kernel
theorem dX4_treeOf_53 : decode cX4_treeOf 53 = .ok (.lshl, 1) := by decide +kernel
theorem dX4_treeOf_54 : decode cX4_treeOf 54 = .ok (.lor, 1) := by decide +kernel
theorem dX4_treeOf_55 : decode cX4_treeOf 55 = .ok (.lor, 1) := by decide +kernel
theorem dX4_treeOf_56 : decode cX4_treeOf 56 = .ok (.lstore_n 2, 1) := by decide +kernel
theorem dX4_treeOf_57 : decode cX4_treeOf 57 = .ok (.iinc 4 (-1), 3) := by decide +kernel
theorem dX4_treeOf_60 : decode cX4_treeOf 60 = .ok (.goto (-53), 3) := by decide +kernel
theorem dX4_treeOf_63 : decode cX4_treeOf 63 = .ok (.lload_n 2, 1) := by decide +kernel
theorem dX4_treeOf_64 : decode cX4_treeOf 64 = .ok (.lreturn, 1) := by decide +kernel
set_option maxRecDepth 20000 in
theorem ggX4_tree_X4_isClause : GoodIn wsX4_tree wsX4_isClause := goodIn_r _ [6, 7, 8, 9, 5, 10, 22, 23, 24, 25, 26, 27, 28, 29] (by decide +kernel) (by decide +kernel)
set_option maxRecDepth 20000 in
theorem gX4_tree_X4_isClause : GoodIn wsX4_tree (wsV RX4 107 RX4 yX4_isClause wsX4_isClause) := goodIn_app (goodIn_of _ (by decide +kernel)) ggX4_tree_X4_isClause
set_option maxRecDepth 20000 in
theorem ggX4_tree_X4_treeOf : GoodIn wsX4_tree wsX4_treeOf := goodIn_r _ [14, 15, 16, 5, 17, 18, 19, 20, 21, 7, 22, 23, 24, 25, 26, 27, 28, 29] (by decide +kernel) (by decide +kernel)
set_option maxRecDepth 20000 in
theorem gX4_tree_X4_treeOf : GoodIn wsX4_tree (wsV RX4 120 RX4 yX4_treeOf wsX4_treeOf) := goodIn_app (goodIn_of _ (by decide +kernel)) ggX4_tree_X4_treeOf
theorem dX4_tree_0 : decode cX4_tree 0 = .ok (.aload_n 0, 1) := by decide +kernel
theorem dX4_tree_1 : decode cX4_tree 1 = .ok (.iload_n 1, 1) := by decide +kernel
theorem dX4_tree_2 : decode cX4_tree 2 = .ok (.invokevirtual 107, 3) := by decide +kernel
theorem dX4_tree_5 : decode cX4_tree 5 = .ok (.ifCond .eq 11, 3) := by decide +kernel
theorem dX4_tree_8 : decode cX4_tree 8 = .ok (.aload_n 0, 1) := by decide +kernel
theorem dX4_tree_9 : decode cX4_tree 9 = .ok (.iload_n 1, 1) := by decide +kernel
theorem dX4_tree_10 : decode cX4_tree 10 = .ok (.invokevirtual 120, 3) := by decide +kernel
theorem dX4_tree_13 : decode cX4_tree 13 = .ok (.goto 6, 3) := by decide +kernel
theorem dX4_tree_16 : decode cX4_tree 16 = .ok (.ldc2_w 124, 3) := by decide +kernel
theorem dX4_tree_19 : decode cX4_tree 19 = .ok (.lreturn, 1) := by decide +kernel
set_option maxRecDepth 20000 in
theorem ggX4_widest_X4_isClause : GoodIn wsX4_widest wsX4_isClause := goodIn_r _ [6, 7, 8, 9, 5, 10, 25, 26, 27, 28, 29, 30, 31, 32] (by decide +kernel) (by decide +kernel)
set_option maxRecDepth 20000 in
theorem gX4_widest_X4_isClause : GoodIn wsX4_widest (wsV RX4 107 RX4 yX4_isClause wsX4_isClause) := goodIn_app (goodIn_of _ (by decide +kernel)) ggX4_widest_X4_isClause
set_option maxRecDepth 20000 in
theorem ggX4_widest_X4_treeOf : GoodIn wsX4_widest wsX4_treeOf := goodIn_r _ [14, 15, 16, 5, 17, 18, 19, 20, 21, 7, 25, 26, 27, 28, 29, 30, 31, 32] (by decide +kernel) (by decide +kernel)
set_option maxRecDepth 20000 in
theorem gX4_widest_X4_treeOf : GoodIn wsX4_widest (wsV RX4 120 RX4 yX4_treeOf wsX4_treeOf) := goodIn_app (goodIn_of _ (by decide +kernel)) ggX4_widest_X4_treeOf
set_option maxRecDepth 20000 in
theorem ggX4_widest_X4_isIn : GoodIn wsX4_widest wsX4_isIn := goodIn_r _ [17] (by decide +kernel) (by decide +kernel)
set_option maxRecDepth 20000 in
theorem gX4_widest_X4_isIn : GoodIn wsX4_widest (va_wsS RX4 116 yX4_isIn wsX4_isIn) := goodIn_app (goodIn_of _ (by decide +kernel)) ggX4_widest_X4_isIn
set_option maxRecDepth 20000 in
theorem ggX4_widest_X4_of : GoodIn wsX4_widest wsX4_of := goodIn_r _ [21, 7, 25, 26, 27, 28, 29, 30, 31, 32] (by decide +kernel) (by decide +kernel)
set_option maxRecDepth 20000 in
theorem gX4_widest_X4_of : GoodIn wsX4_widest (wsV RX4 34 RX4 yX4_of wsX4_of) := goodIn_app (goodIn_of _ (by decide +kernel)) ggX4_widest_X4_of
set_option maxRecDepth 20000 in
theorem ggX4_widest_X4_ones : GoodIn wsX4_widest wsX4_ones := goodIn_r _ [24] (by decide +kernel) (by decide +kernel)
set_option maxRecDepth 20000 in
theorem gX4_widest_X4_ones : GoodIn wsX4_widest (va_wsS RX4 64 yX4_ones wsX4_ones) := goodIn_app (goodIn_of _ (by decide +kernel)) ggX4_widest_X4_ones
theorem dX4_widest_0 : decode cX4_widest 0 = .ok (.aload_n 0, 1) := by decide +kernel
theorem dX4_widest_1 : decode cX4_widest 1 = .ok (.iload_n 1, 1) := by decide +kernel
theorem dX4_widest_2 : decode cX4_widest 2 = .ok (.invokevirtual 107, 3) := by decide +kernel
theorem dX4_widest_5 : decode cX4_widest 5 = .ok (.ifCond .ne 6, 3) := by decide +kernel
theorem dX4_widest_8 : decode cX4_widest 8 = .ok (.ldc 22, 2) := by decide +kernel
theorem dX4_widest_10 : decode cX4_widest 10 = .ok (.ireturn, 1) := by decide +kernel
theorem dX4_widest_11 : decode cX4_widest 11 = .ok (.aload_n 0, 1) := by decide +kernel
theorem dX4_widest_12 : decode cX4_widest 12 = .ok (.iload_n 1, 1) := by decide +kernel
theorem dX4_widest_13 : decode cX4_widest 13 = .ok (.invokevirtual 120, 3) := by decide +kernel
theorem dX4_widest_16 : decode cX4_widest 16 = .ok (.lstore_n 2, 1) := by decide +kernel
theorem dX4_widest_17 : decode cX4_widest 17 = .ok (.iconst 0, 1) := by decide +kernel
theorem dX4_widest_18 : decode cX4_widest 18 = .ok (.istore 4, 2) := by decide +kernel
theorem dX4_widest_20 : decode cX4_widest 20 = .ok (.iconst 0, 1) := by decide +kernel
theorem dX4_widest_21 : decode cX4_widest 21 = .ok (.istore 5, 2) := by decide +kernel
theorem dX4_widest_23 : decode cX4_widest 23 = .ok (.iload 5, 2) := by decide +kernel
theorem dX4_widest_25 : decode cX4_widest 25 = .ok (.iload_n 1, 1) := by decide +kernel
theorem dX4_widest_26 : decode cX4_widest 26 = .ok (.if_icmp .gt 50, 3) := by decide +kernel
theorem dX4_widest_29 : decode cX4_widest 29 = .ok (.lload_n 2, 1) := by decide +kernel
theorem dX4_widest_30 : decode cX4_widest 30 = .ok (.iload 5, 2) := by decide +kernel
theorem dX4_widest_32 : decode cX4_widest 32 = .ok (.invokestatic 116, 3) := by decide +kernel
theorem dX4_widest_35 : decode cX4_widest 35 = .ok (.ifCond .eq 16, 3) := by decide +kernel
theorem dX4_widest_38 : decode cX4_widest 38 = .ok (.aload_n 0, 1) := by decide +kernel
theorem dX4_widest_39 : decode cX4_widest 39 = .ok (.iload 5, 2) := by decide +kernel
theorem dX4_widest_41 : decode cX4_widest 41 = .ok (.iconst 0, 1) := by decide +kernel
theorem dX4_widest_42 : decode cX4_widest 42 = .ok (.invokevirtual 34, 3) := by decide +kernel
theorem dX4_widest_45 : decode cX4_widest 45 = .ok (.invokestatic 64, 3) := by decide +kernel
theorem dX4_widest_48 : decode cX4_widest 48 = .ok (.goto 4, 3) := by decide +kernel
theorem dX4_widest_51 : decode cX4_widest 51 = .ok (.iconst 0, 1) := by decide +kernel
theorem dX4_widest_52 : decode cX4_widest 52 = .ok (.istore 6, 2) := by decide +kernel
theorem dX4_widest_54 : decode cX4_widest 54 = .ok (.iload 6, 2) := by decide +kernel
theorem dX4_widest_56 : decode cX4_widest 56 = .ok (.iload 4, 2) := by decide +kernel
theorem dX4_widest_58 : decode cX4_widest 58 = .ok (.if_icmp .le 8, 3) := by decide +kernel
theorem dX4_widest_61 : decode cX4_widest 61 = .ok (.iload 6, 2) := by decide +kernel
theorem dX4_widest_63 : decode cX4_widest 63 = .ok (.goto 5, 3) := by decide +kernel
theorem dX4_widest_66 : decode cX4_widest 66 = .ok (.iload 4, 2) := by decide +kernel
theorem dX4_widest_68 : decode cX4_widest 68 = .ok (.istore 4, 2) := by decide +kernel
theorem dX4_widest_70 : decode cX4_widest 70 = .ok (.iinc 5 1, 3) := by decide +kernel
theorem dX4_widest_73 : decode cX4_widest 73 = .ok (.goto (-50), 3) := by decide +kernel
theorem dX4_widest_76 : decode cX4_widest 76 = .ok (.iload 4, 2) := by decide +kernel
theorem dX4_widest_78 : decode cX4_widest 78 = .ok (.ireturn, 1) := by decide +kernel
set_option maxRecDepth 20000 in
theorem ggX4_refutation_X4_empties : GoodIn wsX4_refutation wsX4_empties := goodIn_r _ [6, 7, 8, 9, 10, 5, 11, 12, 13, 14, 15, 16, 17, 18, 19] (by decide +kernel) (by decide +kernel)
set_option maxRecDepth 20000 in
theorem gX4_refutation_X4_empties : GoodIn wsX4_refutation (wsV RX4 67 RX4 yX4_empties wsX4_empties) := goodIn_app (goodIn_of _ (by decide +kernel)) ggX4_refutation_X4_empties
theorem dX4_refutation_0 : decode cX4_refutation 0 = .ok (.aload_n 0, 1) := by decide +kernel
theorem dX4_refutation_1 : decode cX4_refutation 1 = .ok (.invokevirtual 67, 3) := by decide +kernel
theorem dX4_refutation_4 : decode cX4_refutation 4 = .ok (.istore_n 1, 1) := by decide +kernel
theorem dX4_refutation_5 : decode cX4_refutation 5 = .ok (.iload_n 1, 1) := by decide +kernel
theorem dX4_refutation_6 : decode cX4_refutation 6 = .ok (.ifCond .ge 8, 3) := by decide +kernel
theorem dX4_refutation_9 : decode cX4_refutation 9 = .ok (.ldc 106, 2) := by decide +kernel
theorem dX4_refutation_11 : decode cX4_refutation 11 = .ok (.goto 4, 3) := by decide +kernel
theorem dX4_refutation_14 : decode cX4_refutation 14 = .ok (.iload_n 1, 1) := by decide +kernel
theorem dX4_refutation_15 : decode cX4_refutation 15 = .ok (.ireturn, 1) := by decide +kernel
set_option maxRecDepth 20000 in
theorem ggX4_isFulfilled_X4_has : GoodIn wsX4_isFulfilled wsX4_has := goodIn_r _ [4] (by decide +kernel) (by decide +kernel)
set_option maxRecDepth 20000 in
theorem gX4_isFulfilled_X4_has : GoodIn wsX4_isFulfilled (va_wsS RX4 38 yX4_has wsX4_has) := goodIn_app (goodIn_of _ (by decide +kernel)) ggX4_isFulfilled_X4_has
theorem dX4_isFulfilled_0 : decode cX4_isFulfilled 0 = .ok (.iconst 0, 1) := by decide +kernel
theorem dX4_isFulfilled_1 : decode cX4_isFulfilled 1 = .ok (.istore_n 2, 1) := by decide +kernel
theorem dX4_isFulfilled_2 : decode cX4_isFulfilled 2 = .ok (.iconst 0, 1) := by decide +kernel
theorem dX4_isFulfilled_3 : decode cX4_isFulfilled 3 = .ok (.istore_n 3, 1) := by decide +kernel
theorem dX4_isFulfilled_4 : decode cX4_isFulfilled 4 = .ok (.iload_n 3, 1) := by decide +kernel
theorem dX4_isFulfilled_5 : decode cX4_isFulfilled 5 = .ok (.bipush 12, 2) := by decide +kernel
theorem dX4_isFulfilled_7 : decode cX4_isFulfilled 7 = .ok (.if_icmp .ge 48, 3) := by decide +kernel
theorem dX4_isFulfilled_10 : decode cX4_isFulfilled 10 = .ok (.iload_n 2, 1) := by decide +kernel
theorem dX4_isFulfilled_11 : decode cX4_isFulfilled 11 = .ok (.ifCond .ne 32, 3) := by decide +kernel
theorem dX4_isFulfilled_14 : decode cX4_isFulfilled 14 = .ok (.iload_n 0, 1) := by decide +kernel
theorem dX4_isFulfilled_15 : decode cX4_isFulfilled 15 = .ok (.iload_n 3, 1) := by decide +kernel
theorem dX4_isFulfilled_16 : decode cX4_isFulfilled 16 = .ok (.invokestatic 38, 3) := by decide +kernel
theorem dX4_isFulfilled_19 : decode cX4_isFulfilled 19 = .ok (.ifCond .eq 28, 3) := by decide +kernel
theorem dX4_isFulfilled_22 : decode cX4_isFulfilled 22 = .ok (.iload_n 1, 1) := by decide +kernel
theorem dX4_isFulfilled_23 : decode cX4_isFulfilled 23 = .ok (.iload_n 3, 1) := by decide +kernel
theorem dX4_isFulfilled_24 : decode cX4_isFulfilled 24 = .ok (.iconst 2, 1) := by decide +kernel
theorem dX4_isFulfilled_25 : decode cX4_isFulfilled 25 = .ok (.idiv, 1) := by decide +kernel
theorem dX4_isFulfilled_26 : decode cX4_isFulfilled 26 = .ok (.invokestatic 38, 3) := by decide +kernel
theorem dX4_isFulfilled_29 : decode cX4_isFulfilled 29 = .ok (.iload_n 3, 1) := by decide +kernel
theorem dX4_isFulfilled_30 : decode cX4_isFulfilled 30 = .ok (.iconst 2, 1) := by decide +kernel
theorem dX4_isFulfilled_31 : decode cX4_isFulfilled 31 = .ok (.irem, 1) := by decide +kernel
theorem dX4_isFulfilled_32 : decode cX4_isFulfilled 32 = .ok (.ifCond .ne 7, 3) := by decide +kernel
theorem dX4_isFulfilled_35 : decode cX4_isFulfilled 35 = .ok (.iconst 1, 1) := by decide +kernel
theorem dX4_isFulfilled_36 : decode cX4_isFulfilled 36 = .ok (.goto 4, 3) := by decide +kernel
theorem dX4_isFulfilled_39 : decode cX4_isFulfilled 39 = .ok (.iconst 0, 1) := by decide +kernel
theorem dX4_isFulfilled_40 : decode cX4_isFulfilled 40 = .ok (.if_icmp .ne 7, 3) := by decide +kernel
theorem dX4_isFulfilled_43 : decode cX4_isFulfilled 43 = .ok (.iconst 1, 1) := by decide +kernel
theorem dX4_isFulfilled_44 : decode cX4_isFulfilled 44 = .ok (.goto 4, 3) := by decide +kernel
theorem dX4_isFulfilled_47 : decode cX4_isFulfilled 47 = .ok (.iconst 0, 1) := by decide +kernel
theorem dX4_isFulfilled_48 : decode cX4_isFulfilled 48 = .ok (.istore_n 2, 1) := by decide +kernel
theorem dX4_isFulfilled_49 : decode cX4_isFulfilled 49 = .ok (.iinc 3 1, 3) := by decide +kernel
theorem dX4_isFulfilled_52 : decode cX4_isFulfilled 52 = .ok (.goto (-48), 3) := by decide +kernel
theorem dX4_isFulfilled_55 : decode cX4_isFulfilled 55 = .ok (.iload_n 2, 1) := by decide +kernel
theorem dX4_isFulfilled_56 : decode cX4_isFulfilled 56 = .ok (.ireturn, 1) := by decide +kernel
set_option maxRecDepth 20000 in
theorem ggX4_fulfils_X4_isIn : GoodIn wsX4_fulfils wsX4_isIn := goodIn_r _ [5] (by decide +kernel) (by decide +kernel)
set_option maxRecDepth 20000 in
theorem gX4_fulfils_X4_isIn : GoodIn wsX4_fulfils (va_wsS RX4 116 yX4_isIn wsX4_isIn) := goodIn_app (goodIn_of _ (by decide +kernel)) ggX4_fulfils_X4_isIn
set_option maxRecDepth 20000 in
theorem ggX4_fulfils_X4_of : GoodIn wsX4_fulfils wsX4_of := goodIn_r _ [9, 1, 16, 17, 18, 19, 20, 21, 22, 23] (by decide +kernel) (by decide +kernel)
set_option maxRecDepth 20000 in
theorem gX4_fulfils_X4_of : GoodIn wsX4_fulfils (wsV RX4 34 RX4 yX4_of wsX4_of) := goodIn_app (goodIn_of _ (by decide +kernel)) ggX4_fulfils_X4_of
set_option maxRecDepth 20000 in
theorem ggX4_fulfils_X4_isFulfilled : GoodIn wsX4_fulfils wsX4_isFulfilled := goodIn_r _ [12, 13, 14, 4, 15] (by decide +kernel) (by decide +kernel)
set_option maxRecDepth 20000 in
theorem gX4_fulfils_X4_isFulfilled : GoodIn wsX4_fulfils (va_wsS RX4 126 yX4_isFulfilled wsX4_isFulfilled) := goodIn_app (goodIn_of _ (by decide +kernel)) ggX4_fulfils_X4_isFulfilled
theorem dX4_fulfils_0 : decode cX4_fulfils 0 = .ok (.iconst 1, 1) := by decide +kernel
theorem dX4_fulfils_1 : decode cX4_fulfils 1 = .ok (.istore 4, 2) := by decide +kernel
theorem dX4_fulfils_3 : decode cX4_fulfils 3 = .ok (.iconst 0, 1) := by decide +kernel
theorem dX4_fulfils_4 : decode cX4_fulfils 4 = .ok (.istore 5, 2) := by decide +kernel
theorem dX4_fulfils_6 : decode cX4_fulfils 6 = .ok (.iload 5, 2) := by decide +kernel
theorem dX4_fulfils_8 : decode cX4_fulfils 8 = .ok (.aload_n 0, 1) := by decide +kernel
theorem dX4_fulfils_9 : decode cX4_fulfils 9 = .ok (.getfield 7, 3) := by decide +kernel
theorem dX4_fulfils_12 : decode cX4_fulfils 12 = .ok (.iconst 0, 1) := by decide +kernel
theorem dX4_fulfils_13 : decode cX4_fulfils 13 = .ok (.iaload, 1) := by decide +kernel
theorem dX4_fulfils_14 : decode cX4_fulfils 14 = .ok (.if_icmp .ge 44, 3) := by decide +kernel
theorem dX4_fulfils_17 : decode cX4_fulfils 17 = .ok (.iload 4, 2) := by decide +kernel
theorem dX4_fulfils_19 : decode cX4_fulfils 19 = .ok (.ifCond .eq 30, 3) := by decide +kernel
theorem dX4_fulfils_22 : decode cX4_fulfils 22 = .ok (.lload_n 2, 1) := by decide +kernel
theorem dX4_fulfils_23 : decode cX4_fulfils 23 = .ok (.iload 5, 2) := by decide +kernel
theorem dX4_fulfils_25 : decode cX4_fulfils 25 = .ok (.invokestatic 116, 3) := by decide +kernel
theorem dX4_fulfils_28 : decode cX4_fulfils 28 = .ok (.ifCond .eq 17, 3) := by decide +kernel
theorem dX4_fulfils_31 : decode cX4_fulfils 31 = .ok (.aload_n 0, 1) := by decide +kernel
theorem dX4_fulfils_32 : decode cX4_fulfils 32 = .ok (.iload 5, 2) := by decide +kernel
theorem dX4_fulfils_34 : decode cX4_fulfils 34 = .ok (.iconst 0, 1) := by decide +kernel
theorem dX4_fulfils_35 : decode cX4_fulfils 35 = .ok (.invokevirtual 34, 3) := by decide +kernel
theorem dX4_fulfils_38 : decode cX4_fulfils 38 = .ok (.iload_n 1, 1) := by decide +kernel
theorem dX4_fulfils_39 : decode cX4_fulfils 39 = .ok (.invokestatic 126, 3) := by decide +kernel
theorem dX4_fulfils_42 : decode cX4_fulfils 42 = .ok (.ifCond .eq 7, 3) := by decide +kernel
theorem dX4_fulfils_45 : decode cX4_fulfils 45 = .ok (.iconst 1, 1) := by decide +kernel
theorem dX4_fulfils_46 : decode cX4_fulfils 46 = .ok (.goto 4, 3) := by decide +kernel
theorem dX4_fulfils_49 : decode cX4_fulfils 49 = .ok (.iconst 0, 1) := by decide +kernel
theorem dX4_fulfils_50 : decode cX4_fulfils 50 = .ok (.istore 4, 2) := by decide +kernel
theorem dX4_fulfils_52 : decode cX4_fulfils 52 = .ok (.iinc 5 1, 3) := by decide +kernel
theorem dX4_fulfils_55 : decode cX4_fulfils 55 = .ok (.goto (-49), 3) := by decide +kernel
theorem dX4_fulfils_58 : decode cX4_fulfils 58 = .ok (.iload 4, 2) := by decide +kernel
theorem dX4_fulfils_60 : decode cX4_fulfils 60 = .ok (.ireturn, 1) := by decide +kernel
set_option maxRecDepth 20000 in
theorem ggX4_toldOnes_X4_of : GoodIn wsX4_toldOnes wsX4_of := goodIn_r _ [6, 1, 7, 8, 9, 10, 11, 12, 13, 14] (by decide +kernel) (by decide +kernel)
set_option maxRecDepth 20000 in
theorem gX4_toldOnes_X4_of : GoodIn wsX4_toldOnes (wsV RX4 34 RX4 yX4_of wsX4_of) := goodIn_app (goodIn_of _ (by decide +kernel)) ggX4_toldOnes_X4_of
theorem dX4_toldOnes_0 : decode cX4_toldOnes 0 = .ok (.lconst 0, 1) := by decide +kernel
theorem dX4_toldOnes_1 : decode cX4_toldOnes 1 = .ok (.lstore_n 1, 1) := by decide +kernel
theorem dX4_toldOnes_2 : decode cX4_toldOnes 2 = .ok (.iconst 0, 1) := by decide +kernel
theorem dX4_toldOnes_3 : decode cX4_toldOnes 3 = .ok (.istore_n 3, 1) := by decide +kernel
theorem dX4_toldOnes_4 : decode cX4_toldOnes 4 = .ok (.iload_n 3, 1) := by decide +kernel
theorem dX4_toldOnes_5 : decode cX4_toldOnes 5 = .ok (.aload_n 0, 1) := by decide +kernel
theorem dX4_toldOnes_6 : decode cX4_toldOnes 6 = .ok (.getfield 7, 3) := by decide +kernel
theorem dX4_toldOnes_9 : decode cX4_toldOnes 9 = .ok (.iconst 0, 1) := by decide +kernel
theorem dX4_toldOnes_10 : decode cX4_toldOnes 10 = .ok (.iaload, 1) := by decide +kernel
theorem dX4_toldOnes_11 : decode cX4_toldOnes 11 = .ok (.if_icmp .ge 28, 3) := by decide +kernel
theorem dX4_toldOnes_14 : decode cX4_toldOnes 14 = .ok (.lload_n 1, 1) := by decide +kernel
theorem dX4_toldOnes_15 : decode cX4_toldOnes 15 = .ok (.aload_n 0, 1) := by decide +kernel
theorem dX4_toldOnes_16 : decode cX4_toldOnes 16 = .ok (.iload_n 3, 1) := by decide +kernel
theorem dX4_toldOnes_17 : decode cX4_toldOnes 17 = .ok (.iconst 2, 1) := by decide +kernel
theorem dX4_toldOnes_18 : decode cX4_toldOnes 18 = .ok (.invokevirtual 34, 3) := by decide +kernel
theorem dX4_toldOnes_21 : decode cX4_toldOnes 21 = .ok (.ifCond .ne 9, 3) := by decide +kernel
theorem dX4_toldOnes_24 : decode cX4_toldOnes 24 = .ok (.lconst 1, 1) := by decide +kernel
theorem dX4_toldOnes_25 : decode cX4_toldOnes 25 = .ok (.iload_n 3, 1) := by decide +kernel
theorem dX4_toldOnes_26 : decode cX4_toldOnes 26 = .ok (.lshl, 1) := by decide +kernel
theorem dX4_toldOnes_27 : decode cX4_toldOnes 27 = .ok (.goto 4, 3) := by decide +kernel
theorem dX4_toldOnes_30 : decode cX4_toldOnes 30 = .ok (.lconst 0, 1) := by decide +kernel
theorem dX4_toldOnes_31 : decode cX4_toldOnes 31 = .ok (.lor, 1) := by decide +kernel
theorem dX4_toldOnes_32 : decode cX4_toldOnes 32 = .ok (.lstore_n 1, 1) := by decide +kernel
theorem dX4_toldOnes_33 : decode cX4_toldOnes 33 = .ok (.iinc 3 1, 3) := by decide +kernel
theorem dX4_toldOnes_36 : decode cX4_toldOnes 36 = .ok (.goto (-32), 3) := by decide +kernel
theorem dX4_toldOnes_39 : decode cX4_toldOnes 39 = .ok (.lload_n 1, 1) := by decide +kernel
theorem dX4_toldOnes_40 : decode cX4_toldOnes 40 = .ok (.lreturn, 1) := by decide +kernel
set_option maxRecDepth 20000 in
theorem ggX4_modelsOf_X4_fulfils : GoodIn wsX4_modelsOf wsX4_fulfils := goodIn_r _ [5, 6, 7, 8, 4, 9, 10, 11, 12, 13, 14, 15, 16, 17, 18, 19, 20, 21, 22, 23, 24, 25, 26, 27] (by decide +kernel) (by decide +kernel)
set_option maxRecDepth 20000 in
theorem gX4_modelsOf_X4_fulfils : GoodIn wsX4_modelsOf (wsV RX4 129 RX4 yX4_fulfils wsX4_fulfils) := goodIn_app (goodIn_of _ (by decide +kernel)) ggX4_modelsOf_X4_fulfils
theorem dX4_modelsOf_0 : decode cX4_modelsOf 0 = .ok (.iconst 0, 1) := by decide +kernel
theorem dX4_modelsOf_1 : decode cX4_modelsOf 1 = .ok (.istore_n 3, 1) := by decide +kernel
theorem dX4_modelsOf_2 : decode cX4_modelsOf 2 = .ok (.iconst 0, 1) := by decide +kernel
theorem dX4_modelsOf_3 : decode cX4_modelsOf 3 = .ok (.istore 4, 2) := by decide +kernel
theorem dX4_modelsOf_5 : decode cX4_modelsOf 5 = .ok (.iload 4, 2) := by decide +kernel
theorem dX4_modelsOf_7 : decode cX4_modelsOf 7 = .ok (.bipush 64, 2) := by decide +kernel
theorem dX4_modelsOf_9 : decode cX4_modelsOf 9 = .ok (.if_icmp .ge 27, 3) := by decide +kernel
theorem dX4_modelsOf_12 : decode cX4_modelsOf 12 = .ok (.iload_n 3, 1) := by decide +kernel
theorem dX4_modelsOf_13 : decode cX4_modelsOf 13 = .ok (.aload_n 0, 1) := by decide +kernel
theorem dX4_modelsOf_14 : decode cX4_modelsOf 14 = .ok (.iload 4, 2) := by decide +kernel
theorem dX4_modelsOf_16 : decode cX4_modelsOf 16 = .ok (.lload_n 1, 1) := by decide +kernel
theorem dX4_modelsOf_17 : decode cX4_modelsOf 17 = .ok (.invokevirtual 129, 3) := by decide +kernel
theorem dX4_modelsOf_20 : decode cX4_modelsOf 20 = .ok (.ifCond .eq 7, 3) := by decide +kernel
theorem dX4_modelsOf_23 : decode cX4_modelsOf 23 = .ok (.iconst 1, 1) := by decide +kernel
theorem dX4_modelsOf_24 : decode cX4_modelsOf 24 = .ok (.goto 4, 3) := by decide +kernel
theorem dX4_modelsOf_27 : decode cX4_modelsOf 27 = .ok (.iconst 0, 1) := by decide +kernel
theorem dX4_modelsOf_28 : decode cX4_modelsOf 28 = .ok (.iadd, 1) := by decide +kernel
theorem dX4_modelsOf_29 : decode cX4_modelsOf 29 = .ok (.istore_n 3, 1) := by decide +kernel
theorem dX4_modelsOf_30 : decode cX4_modelsOf 30 = .ok (.iinc 4 1, 3) := by decide +kernel
theorem dX4_modelsOf_33 : decode cX4_modelsOf 33 = .ok (.goto (-28), 3) := by decide +kernel
theorem dX4_modelsOf_36 : decode cX4_modelsOf 36 = .ok (.iload_n 3, 1) := by decide +kernel
theorem dX4_modelsOf_37 : decode cX4_modelsOf 37 = .ok (.ireturn, 1) := by decide +kernel
set_option maxRecDepth 20000 in
theorem ggX4_models_X4_toldOnes : GoodIn wsX4_models wsX4_toldOnes := goodIn_r _ [5, 6, 7, 8, 9, 4, 10, 28, 29, 30, 31, 32, 33, 34, 35] (by decide +kernel) (by decide +kernel)
set_option maxRecDepth 20000 in
theorem gX4_models_X4_toldOnes : GoodIn wsX4_models (wsV RX4 133 RX4 yX4_toldOnes wsX4_toldOnes) := goodIn_app (goodIn_of _ (by decide +kernel)) ggX4_models_X4_toldOnes
set_option maxRecDepth 20000 in
theorem ggX4_models_X4_modelsOf : GoodIn wsX4_models wsX4_modelsOf := goodIn_r _ [14, 15, 16, 17, 4, 18, 6, 19, 20, 21, 7, 8, 9, 10, 22, 23, 24, 25, 26, 27, 28, 29, 30, 31, 32, 33, 34, 35] (by decide +kernel) (by decide +kernel)
set_option maxRecDepth 20000 in
theorem gX4_models_X4_modelsOf : GoodIn wsX4_models (wsV RX4 137 RX4 yX4_modelsOf wsX4_modelsOf) := goodIn_app (goodIn_of _ (by decide +kernel)) ggX4_models_X4_modelsOf
theorem dX4_models_0 : decode cX4_models 0 = .ok (.aload_n 0, 1) := by decide +kernel
theorem dX4_models_1 : decode cX4_models 1 = .ok (.aload_n 0, 1) := by decide +kernel
theorem dX4_models_2 : decode cX4_models 2 = .ok (.invokevirtual 133, 3) := by decide +kernel
theorem dX4_models_5 : decode cX4_models 5 = .ok (.invokevirtual 137, 3) := by decide +kernel
theorem dX4_models_8 : decode cX4_models 8 = .ok (.ireturn, 1) := by decide +kernel
set_option maxRecDepth 20000 in
theorem ggX4_model_X4_toldOnes : GoodIn wsX4_model wsX4_toldOnes := goodIn_r _ [7, 8, 9, 10, 11, 6, 12, 26, 27, 28, 29, 30, 31, 32, 33] (by decide +kernel) (by decide +kernel)
set_option maxRecDepth 20000 in
theorem gX4_model_X4_toldOnes : GoodIn wsX4_model (wsV RX4 133 RX4 yX4_toldOnes wsX4_toldOnes) := goodIn_app (goodIn_of _ (by decide +kernel)) ggX4_model_X4_toldOnes
set_option maxRecDepth 20000 in
theorem ggX4_model_X4_fulfils : GoodIn wsX4_model wsX4_fulfils := goodIn_r _ [16, 8, 17, 18, 6, 19, 9, 10, 11, 12, 20, 21, 22, 23, 24, 25, 26, 27, 28, 29, 30, 31, 32, 33] (by decide +kernel) (by decide +kernel)
set_option maxRecDepth 20000 in
theorem gX4_model_X4_fulfils : GoodIn wsX4_model (wsV RX4 129 RX4 yX4_fulfils wsX4_fulfils) := goodIn_app (goodIn_of _ (by decide +kernel)) ggX4_model_X4_fulfils
theorem dX4_model_0 : decode cX4_model 0 = .ok (.iload_n 1, 1) := by decide +kernel
theorem dX4_model_1 : decode cX4_model 1 = .ok (.ifCond .ge 6, 3) := by decide +kernel
theorem dX4_model_4 : decode cX4_model 4 = .ok (.ldc 22, 2) := by decide +kernel
theorem dX4_model_6 : decode cX4_model 6 = .ok (.ireturn, 1) := by decide +kernel
theorem dX4_model_7 : decode cX4_model 7 = .ok (.aload_n 0, 1) := by decide +kernel
theorem dX4_model_8 : decode cX4_model 8 = .ok (.invokevirtual 133, 3) := by decide +kernel
theorem dX4_model_11 : decode cX4_model 11 = .ok (.lstore_n 2, 1) := by decide +kernel
theorem dX4_model_12 : decode cX4_model 12 = .ok (.iconst 0, 1) := by decide +kernel
theorem dX4_model_13 : decode cX4_model 13 = .ok (.istore 4, 2) := by decide +kernel
theorem dX4_model_15 : decode cX4_model 15 = .ok (.iconst 0, 1) := by decide +kernel
theorem dX4_model_16 : decode cX4_model 16 = .ok (.istore 5, 2) := by decide +kernel
theorem dX4_model_18 : decode cX4_model 18 = .ok (.iload 5, 2) := by decide +kernel
theorem dX4_model_20 : decode cX4_model 20 = .ok (.bipush 64, 2) := by decide +kernel
theorem dX4_model_22 : decode cX4_model 22 = .ok (.if_icmp .ge 47, 3) := by decide +kernel
theorem dX4_model_25 : decode cX4_model 25 = .ok (.aload_n 0, 1) := by decide +kernel
theorem dX4_model_26 : decode cX4_model 26 = .ok (.iload 5, 2) := by decide +kernel
theorem dX4_model_28 : decode cX4_model 28 = .ok (.lload_n 2, 1) := by decide +kernel
theorem dX4_model_29 : decode cX4_model 29 = .ok (.invokevirtual 129, 3) := by decide +kernel
theorem dX4_model_32 : decode cX4_model 32 = .ok (.istore 6, 2) := by decide +kernel
theorem dX4_model_34 : decode cX4_model 34 = .ok (.iload 6, 2) := by decide +kernel
theorem dX4_model_36 : decode cX4_model 36 = .ok (.ifCond .eq 12, 3) := by decide +kernel
theorem dX4_model_39 : decode cX4_model 39 = .ok (.iload 4, 2) := by decide +kernel
theorem dX4_model_41 : decode cX4_model 41 = .ok (.iload_n 1, 1) := by decide +kernel
theorem dX4_model_42 : decode cX4_model 42 = .ok (.if_icmp .ne 6, 3) := by decide +kernel
theorem dX4_model_45 : decode cX4_model 45 = .ok (.iload 5, 2) := by decide +kernel
theorem dX4_model_47 : decode cX4_model 47 = .ok (.ireturn, 1) := by decide +kernel
theorem dX4_model_48 : decode cX4_model 48 = .ok (.iload 4, 2) := by decide +kernel
theorem dX4_model_50 : decode cX4_model 50 = .ok (.iload 6, 2) := by decide +kernel
theorem dX4_model_52 : decode cX4_model 52 = .ok (.ifCond .eq 7, 3) := by decide +kernel
theorem dX4_model_55 : decode cX4_model 55 = .ok (.iconst 1, 1) := by decide +kernel
theorem dX4_model_56 : decode cX4_model 56 = .ok (.goto 4, 3) := by decide +kernel
theorem dX4_model_59 : decode cX4_model 59 = .ok (.iconst 0, 1) := by decide +kernel
theorem dX4_model_60 : decode cX4_model 60 = .ok (.iadd, 1) := by decide +kernel
theorem dX4_model_61 : decode cX4_model 61 = .ok (.istore 4, 2) := by decide +kernel
theorem dX4_model_63 : decode cX4_model 63 = .ok (.iinc 5 1, 3) := by decide +kernel
theorem dX4_model_66 : decode cX4_model 66 = .ok (.goto (-48), 3) := by decide +kernel
theorem dX4_model_69 : decode cX4_model 69 = .ok (.ldc 106, 2) := by decide +kernel
theorem dX4_model_71 : decode cX4_model 71 = .ok (.ireturn, 1) := by decide +kernel
set_option maxRecDepth 20000 in
theorem ggX4_broken_X4_in : GoodIn wsX4_broken wsX4_in := goodIn_r _ [6] (by decide +kernel) (by decide +kernel)
set_option maxRecDepth 20000 in
theorem gX4_broken_X4_in : GoodIn wsX4_broken (va_wsS RX4 30 yX4_in wsX4_in) := goodIn_app (goodIn_of _ (by decide +kernel)) ggX4_broken_X4_in
set_option maxRecDepth 20000 in
theorem ggX4_broken_X4_isKept : GoodIn wsX4_broken wsX4_isKept := goodIn_r _ [10, 11, 12, 13, 5, 14, 2, 21, 22, 23, 24, 25, 26, 27, 28] (by decide +kernel) (by decide +kernel)
set_option maxRecDepth 20000 in
theorem gX4_broken_X4_isKept : GoodIn wsX4_broken (wsV RX4 49 RX4 yX4_isKept wsX4_isKept) := goodIn_app (goodIn_of _ (by decide +kernel)) ggX4_broken_X4_isKept
set_option maxRecDepth 20000 in
theorem ggX4_broken_X4_of : GoodIn wsX4_broken wsX4_of := goodIn_r _ [14, 2, 21, 22, 23, 24, 25, 26, 27, 28] (by decide +kernel) (by decide +kernel)
set_option maxRecDepth 20000 in
theorem gX4_broken_X4_of : GoodIn wsX4_broken (wsV RX4 34 RX4 yX4_of wsX4_of) := goodIn_app (goodIn_of _ (by decide +kernel)) ggX4_broken_X4_of
set_option maxRecDepth 20000 in
theorem ggX4_broken_X4_isFulfilled : GoodIn wsX4_broken wsX4_isFulfilled := goodIn_r _ [17, 18, 19, 5, 20] (by decide +kernel) (by decide +kernel)
set_option maxRecDepth 20000 in
theorem gX4_broken_X4_isFulfilled : GoodIn wsX4_broken (va_wsS RX4 126 yX4_isFulfilled wsX4_isFulfilled) := goodIn_app (goodIn_of _ (by decide +kernel)) ggX4_broken_X4_isFulfilled
theorem dX4_broken_0 : decode cX4_broken 0 = .ok (.iload_n 1, 1) := by decide +kernel
theorem dX4_broken_1 : decode cX4_broken 1 = .ok (.iconst 0, 1) := by decide +kernel
theorem dX4_broken_2 : decode cX4_broken 2 = .ok (.bipush 63, 2) := by decide +kernel
theorem dX4_broken_4 : decode cX4_broken 4 = .ok (.invokestatic 30, 3) := by decide +kernel
theorem dX4_broken_7 : decode cX4_broken 7 = .ok (.ifCond .ne 7, 3) := by decide +kernel
theorem dX4_broken_10 : decode cX4_broken 10 = .ok (.ldc2_w 124, 3) := by decide +kernel
theorem dX4_broken_13 : decode cX4_broken 13 = .ok (.lreturn, 1) := by decide +kernel
theorem dX4_broken_14 : decode cX4_broken 14 = .ok (.lconst 0, 1) := by decide +kernel
theorem dX4_broken_15 : decode cX4_broken 15 = .ok (.lstore_n 2, 1) := by decide +kernel
theorem dX4_broken_16 : decode cX4_broken 16 = .ok (.iconst 0, 1) := by decide +kernel
theorem dX4_broken_17 : decode cX4_broken 17 = .ok (.istore 4, 2) := by decide +kernel
theorem dX4_broken_19 : decode cX4_broken 19 = .ok (.iload 4, 2) := by decide +kernel
theorem dX4_broken_21 : decode cX4_broken 21 = .ok (.aload_n 0, 1) := by decide +kernel
theorem dX4_broken_22 : decode cX4_broken 22 = .ok (.getfield 7, 3) := by decide +kernel
theorem dX4_broken_25 : decode cX4_broken 25 = .ok (.iconst 0, 1) := by decide +kernel
theorem dX4_broken_26 : decode cX4_broken 26 = .ok (.iaload, 1) := by decide +kernel
theorem dX4_broken_27 : decode cX4_broken 27 = .ok (.if_icmp .ge 43, 3) := by decide +kernel
theorem dX4_broken_30 : decode cX4_broken 30 = .ok (.lload_n 2, 1) := by decide +kernel
theorem dX4_broken_31 : decode cX4_broken 31 = .ok (.aload_n 0, 1) := by decide +kernel
theorem dX4_broken_32 : decode cX4_broken 32 = .ok (.iload 4, 2) := by decide +kernel
theorem dX4_broken_34 : decode cX4_broken 34 = .ok (.invokevirtual 49, 3) := by decide +kernel
theorem dX4_broken_37 : decode cX4_broken 37 = .ok (.ifCond .eq 24, 3) := by decide +kernel
theorem dX4_broken_40 : decode cX4_broken 40 = .ok (.aload_n 0, 1) := by decide +kernel
theorem dX4_broken_41 : decode cX4_broken 41 = .ok (.iload 4, 2) := by decide +kernel
theorem dX4_broken_43 : decode cX4_broken 43 = .ok (.iconst 0, 1) := by decide +kernel
theorem dX4_broken_44 : decode cX4_broken 44 = .ok (.invokevirtual 34, 3) := by decide +kernel
theorem dX4_broken_47 : decode cX4_broken 47 = .ok (.iload_n 1, 1) := by decide +kernel
theorem dX4_broken_48 : decode cX4_broken 48 = .ok (.invokestatic 126, 3) := by decide +kernel
theorem dX4_broken_51 : decode cX4_broken 51 = .ok (.ifCond .ne 10, 3) := by decide +kernel
theorem dX4_broken_54 : decode cX4_broken 54 = .ok (.lconst 1, 1) := by decide +kernel
theorem dX4_broken_55 : decode cX4_broken 55 = .ok (.iload 4, 2) := by decide +kernel
theorem dX4_broken_57 : decode cX4_broken 57 = .ok (.lshl, 1) := by decide +kernel
theorem dX4_broken_58 : decode cX4_broken 58 = .ok (.goto 4, 3) := by decide +kernel
theorem dX4_broken_61 : decode cX4_broken 61 = .ok (.lconst 0, 1) := by decide +kernel
theorem dX4_broken_62 : decode cX4_broken 62 = .ok (.lor, 1) := by decide +kernel
theorem dX4_broken_63 : decode cX4_broken 63 = .ok (.lstore_n 2, 1) := by decide +kernel
theorem dX4_broken_64 : decode cX4_broken 64 = .ok (.iinc 4 1, 3) := by decide +kernel
theorem dX4_broken_67 : decode cX4_broken 67 = .ok (.goto (-48), 3) := by decide +kernel
theorem dX4_broken_70 : decode cX4_broken 70 = .ok (.lload_n 2, 1) := by decide +kernel
theorem dX4_broken_71 : decode cX4_broken 71 = .ok (.lreturn, 1) := by decide +kernel
set_option maxRecDepth 20000 in
theorem ggX4_core_X4_toldOnes : GoodIn wsX4_core wsX4_toldOnes := goodIn_r _ [8, 2, 9, 10, 11, 7, 12, 30, 31, 32, 33, 34, 35, 36, 37] (by decide +kernel) (by decide +kernel)
set_option maxRecDepth 20000 in
theorem gX4_core_X4_toldOnes : GoodIn wsX4_core (wsV RX4 133 RX4 yX4_toldOnes wsX4_toldOnes) := goodIn_app (goodIn_of _ (by decide +kernel)) ggX4_core_X4_toldOnes
set_option maxRecDepth 20000 in
theorem ggX4_core_X4_modelsOf : GoodIn wsX4_core wsX4_modelsOf := goodIn_r _ [16, 17, 18, 19, 7, 20, 2, 21, 22, 23, 9, 10, 11, 12, 24, 25, 26, 27, 28, 29, 30, 31, 32, 33, 34, 35, 36, 37] (by decide +kernel) (by decide +kernel)
set_option maxRecDepth 20000 in
theorem gX4_core_X4_modelsOf : GoodIn wsX4_core (wsV RX4 137 RX4 yX4_modelsOf wsX4_modelsOf) := goodIn_app (goodIn_of _ (by decide +kernel)) ggX4_core_X4_modelsOf
theorem dX4_core_0 : decode cX4_core 0 = .ok (.aload_n 0, 1) := by decide +kernel
theorem dX4_core_1 : decode cX4_core 1 = .ok (.invokevirtual 133, 3) := by decide +kernel
theorem dX4_core_4 : decode cX4_core 4 = .ok (.lstore_n 1, 1) := by decide +kernel
theorem dX4_core_5 : decode cX4_core 5 = .ok (.aload_n 0, 1) := by decide +kernel
theorem dX4_core_6 : decode cX4_core 6 = .ok (.lload_n 1, 1) := by decide +kernel
theorem dX4_core_7 : decode cX4_core 7 = .ok (.invokevirtual 137, 3) := by decide +kernel
theorem dX4_core_10 : decode cX4_core 10 = .ok (.ifCond .le 7, 3) := by decide +kernel
theorem dX4_core_13 : decode cX4_core 13 = .ok (.ldc2_w 141, 3) := by decide +kernel
theorem dX4_core_16 : decode cX4_core 16 = .ok (.lreturn, 1) := by decide +kernel
theorem dX4_core_17 : decode cX4_core 17 = .ok (.iconst 0, 1) := by decide +kernel
theorem dX4_core_18 : decode cX4_core 18 = .ok (.istore_n 3, 1) := by decide +kernel
theorem dX4_core_19 : decode cX4_core 19 = .ok (.iload_n 3, 1) := by decide +kernel
theorem dX4_core_20 : decode cX4_core 20 = .ok (.aload_n 0, 1) := by decide +kernel
theorem dX4_core_21 : decode cX4_core 21 = .ok (.getfield 7, 3) := by decide +kernel
theorem dX4_core_24 : decode cX4_core 24 = .ok (.iconst 0, 1) := by decide +kernel
theorem dX4_core_25 : decode cX4_core 25 = .ok (.iaload, 1) := by decide +kernel
theorem dX4_core_26 : decode cX4_core 26 = .ok (.if_icmp .ge 36, 3) := by decide +kernel
theorem dX4_core_29 : decode cX4_core 29 = .ok (.lload_n 1, 1) := by decide +kernel
theorem dX4_core_30 : decode cX4_core 30 = .ok (.lconst 1, 1) := by decide +kernel
theorem dX4_core_31 : decode cX4_core 31 = .ok (.iload_n 3, 1) := by decide +kernel
theorem dX4_core_32 : decode cX4_core 32 = .ok (.lshl, 1) := by decide +kernel
theorem dX4_core_33 : decode cX4_core 33 = .ok (.ldc2_w 143, 3) := by decide +kernel
theorem dX4_core_36 : decode cX4_core 36 = .ok (.lxor, 1) := by decide +kernel
theorem dX4_core_37 : decode cX4_core 37 = .ok (.land, 1) := by decide +kernel
theorem dX4_core_38 : decode cX4_core 38 = .ok (.lstore 4, 2) := by decide +kernel
theorem dX4_core_40 : decode cX4_core 40 = .ok (.aload_n 0, 1) := by decide +kernel
theorem dX4_core_41 : decode cX4_core 41 = .ok (.lload 4, 2) := by decide +kernel
theorem dX4_core_43 : decode cX4_core 43 = .ok (.invokevirtual 137, 3) := by decide +kernel
theorem dX4_core_46 : decode cX4_core 46 = .ok (.ifCond .ne 8, 3) := by decide +kernel
theorem dX4_core_49 : decode cX4_core 49 = .ok (.lload 4, 2) := by decide +kernel
theorem dX4_core_51 : decode cX4_core 51 = .ok (.goto 4, 3) := by decide +kernel
theorem dX4_core_54 : decode cX4_core 54 = .ok (.lload_n 1, 1) := by decide +kernel
theorem dX4_core_55 : decode cX4_core 55 = .ok (.lstore_n 1, 1) := by decide +kernel
theorem dX4_core_56 : decode cX4_core 56 = .ok (.iinc 3 1, 3) := by decide +kernel
theorem dX4_core_59 : decode cX4_core 59 = .ok (.goto (-40), 3) := by decide +kernel
theorem dX4_core_62 : decode cX4_core 62 = .ok (.lload_n 1, 1) := by decide +kernel
theorem dX4_core_63 : decode cX4_core 63 = .ok (.lreturn, 1) := by decide +kernel
set_option maxRecDepth 20000 in
theorem ggX4_follows_X4_in : GoodIn wsX4_follows wsX4_in := goodIn_r _ [5] (by decide +kernel) (by decide +kernel)
set_option maxRecDepth 20000 in
theorem gX4_follows_X4_in : GoodIn wsX4_follows (va_wsS RX4 30 yX4_in wsX4_in) := goodIn_app (goodIn_of _ (by decide +kernel)) ggX4_follows_X4_in
set_option maxRecDepth 20000 in
theorem ggX4_follows_X4_toldOnes : GoodIn wsX4_follows wsX4_toldOnes := goodIn_r _ [9, 10, 11, 12, 13, 4, 14, 28, 29, 30, 31, 32, 33, 34, 35] (by decide +kernel) (by decide +kernel)
set_option maxRecDepth 20000 in
theorem gX4_follows_X4_toldOnes : GoodIn wsX4_follows (wsV RX4 133 RX4 yX4_toldOnes wsX4_toldOnes) := goodIn_app (goodIn_of _ (by decide +kernel)) ggX4_follows_X4_toldOnes
set_option maxRecDepth 20000 in
theorem ggX4_follows_X4_fulfils : GoodIn wsX4_follows wsX4_fulfils := goodIn_r _ [18, 10, 19, 20, 4, 21, 11, 12, 13, 14, 22, 23, 24, 25, 26, 27, 28, 29, 30, 31, 32, 33, 34, 35] (by decide +kernel) (by decide +kernel)
set_option maxRecDepth 20000 in
theorem gX4_follows_X4_fulfils : GoodIn wsX4_follows (wsV RX4 129 RX4 yX4_fulfils wsX4_fulfils) := goodIn_app (goodIn_of _ (by decide +kernel)) ggX4_follows_X4_fulfils
set_option maxRecDepth 20000 in
theorem ggX4_follows_X4_isFulfilled : GoodIn wsX4_follows wsX4_isFulfilled := goodIn_r _ [24, 25, 26, 4, 27] (by decide +kernel) (by decide +kernel)
set_option maxRecDepth 20000 in
theorem gX4_follows_X4_isFulfilled : GoodIn wsX4_follows (va_wsS RX4 126 yX4_isFulfilled wsX4_isFulfilled) := goodIn_app (goodIn_of _ (by decide +kernel)) ggX4_follows_X4_isFulfilled
theorem dX4_follows_0 : decode cX4_follows 0 = .ok (.iload_n 1, 1) := by decide +kernel
theorem dX4_follows_1 : decode cX4_follows 1 = .ok (.iconst 0, 1) := by decide +kernel
theorem dX4_follows_2 : decode cX4_follows 2 = .ok (.sipush 4095, 3) := by decide +kernel
theorem dX4_follows_5 : decode cX4_follows 5 = .ok (.invokestatic 30, 3) := by decide +kernel
theorem dX4_follows_8 : decode cX4_follows 8 = .ok (.ifCond .ne 6, 3) := by decide +kernel
theorem dX4_follows_11 : decode cX4_follows 11 = .ok (.ldc 22, 2) := by decide +kernel
theorem dX4_follows_13 : decode cX4_follows 13 = .ok (.ireturn, 1) := by decide +kernel
theorem dX4_follows_14 : decode cX4_follows 14 = .ok (.aload_n 0, 1) := by decide +kernel
theorem dX4_follows_15 : decode cX4_follows 15 = .ok (.invokevirtual 133, 3) := by decide +kernel
theorem dX4_follows_18 : decode cX4_follows 18 = .ok (.lstore_n 2, 1) := by decide +kernel
theorem dX4_follows_19 : decode cX4_follows 19 = .ok (.iconst 1, 1) := by decide +kernel
theorem dX4_follows_20 : decode cX4_follows 20 = .ok (.istore 4, 2) := by decide +kernel
theorem dX4_follows_22 : decode cX4_follows 22 = .ok (.iconst 0, 1) := by decide +kernel
theorem dX4_follows_23 : decode cX4_follows 23 = .ok (.istore 5, 2) := by decide +kernel
theorem dX4_follows_25 : decode cX4_follows 25 = .ok (.iload 5, 2) := by decide +kernel
theorem dX4_follows_27 : decode cX4_follows 27 = .ok (.bipush 64, 2) := by decide +kernel
theorem dX4_follows_29 : decode cX4_follows 29 = .ok (.if_icmp .ge 40, 3) := by decide +kernel
theorem dX4_follows_32 : decode cX4_follows 32 = .ok (.iload 4, 2) := by decide +kernel
theorem dX4_follows_34 : decode cX4_follows 34 = .ok (.ifCond .eq 26, 3) := by decide +kernel
theorem dX4_follows_37 : decode cX4_follows 37 = .ok (.aload_n 0, 1) := by decide +kernel
theorem dX4_follows_38 : decode cX4_follows 38 = .ok (.iload 5, 2) := by decide +kernel
theorem dX4_follows_40 : decode cX4_follows 40 = .ok (.lload_n 2, 1) := by decide +kernel
theorem dX4_follows_41 : decode cX4_follows 41 = .ok (.invokevirtual 129, 3) := by decide +kernel
theorem dX4_follows_44 : decode cX4_follows 44 = .ok (.ifCond .eq 12, 3) := by decide +kernel
theorem dX4_follows_47 : decode cX4_follows 47 = .ok (.iload_n 1, 1) := by decide +kernel
theorem dX4_follows_48 : decode cX4_follows 48 = .ok (.iload 5, 2) := by decide +kernel
theorem dX4_follows_50 : decode cX4_follows 50 = .ok (.invokestatic 126, 3) := by decide +kernel
theorem dX4_follows_53 : decode cX4_follows 53 = .ok (.ifCond .eq 7, 3) := by decide +kernel
theorem dX4_follows_56 : decode cX4_follows 56 = .ok (.iconst 1, 1) := by decide +kernel
theorem dX4_follows_57 : decode cX4_follows 57 = .ok (.goto 4, 3) := by decide +kernel
theorem dX4_follows_60 : decode cX4_follows 60 = .ok (.iconst 0, 1) := by decide +kernel
theorem dX4_follows_61 : decode cX4_follows 61 = .ok (.istore 4, 2) := by decide +kernel
theorem dX4_follows_63 : decode cX4_follows 63 = .ok (.iinc 5 1, 3) := by decide +kernel
theorem dX4_follows_66 : decode cX4_follows 66 = .ok (.goto (-41), 3) := by decide +kernel
theorem dX4_follows_69 : decode cX4_follows 69 = .ok (.iload 4, 2) := by decide +kernel
theorem dX4_follows_71 : decode cX4_follows 71 = .ok (.ifCond .eq 7, 3) := by decide +kernel
theorem dX4_follows_74 : decode cX4_follows 74 = .ok (.iconst 1, 1) := by decide +kernel
theorem dX4_follows_75 : decode cX4_follows 75 = .ok (.goto 4, 3) := by decide +kernel
theorem dX4_follows_78 : decode cX4_follows 78 = .ok (.iconst 0, 1) := by decide +kernel
theorem dX4_follows_79 : decode cX4_follows 79 = .ok (.ireturn, 1) := by decide +kernel
set_option maxRecDepth 20000 in
theorem ggX4_share_X4_in : GoodIn wsX4_share wsX4_in := goodIn_r _ [6] (by decide +kernel) (by decide +kernel)
set_option maxRecDepth 20000 in
theorem gX4_share_X4_in : GoodIn wsX4_share (va_wsS RX4 30 yX4_in wsX4_in) := goodIn_app (goodIn_of _ (by decide +kernel)) ggX4_share_X4_in
set_option maxRecDepth 20000 in
theorem ggX4_share_X4_isFulfilled : GoodIn wsX4_share wsX4_isFulfilled := goodIn_r _ [9, 10, 11, 5, 12] (by decide +kernel) (by decide +kernel)
set_option maxRecDepth 20000 in
theorem gX4_share_X4_isFulfilled : GoodIn wsX4_share (va_wsS RX4 126 yX4_isFulfilled wsX4_isFulfilled) := goodIn_app (goodIn_of _ (by decide +kernel)) ggX4_share_X4_isFulfilled
set_option maxRecDepth 20000 in
theorem ggX4_share_Jxf58ca_floatToIntBits_5c35a : GoodIn wsX4_share wsJxf58ca_floatToIntBits_5c35a := goodIn_r _ [16, 17, 18, 19, 20, 21, 22, 23, 15, 24] (by decide +kernel) (by decide +kernel)
set_option maxRecDepth 20000 in
theorem gX4_share_Jxf58ca_floatToIntBits_5c35a : GoodIn wsX4_share (va_wsS RX4 146 yJxf58ca_floatToIntBits_5c35a wsJxf58ca_floatToIntBits_5c35a) := goodIn_app (goodIn_of _ (by decide +kernel)) ggX4_share_Jxf58ca_floatToIntBits_5c35a
theorem dX4_share_0 : decode cX4_share 0 = .ok (.iload_n 1, 1) := by decide +kernel
theorem dX4_share_1 : decode cX4_share 1 = .ok (.iconst 0, 1) := by decide +kernel
theorem dX4_share_2 : decode cX4_share 2 = .ok (.sipush 4095, 3) := by decide +kernel
theorem dX4_share_5 : decode cX4_share 5 = .ok (.invokestatic 30, 3) := by decide +kernel
theorem dX4_share_8 : decode cX4_share 8 = .ok (.ifCond .ne 6, 3) := by decide +kernel
theorem dX4_share_11 : decode cX4_share 11 = .ok (.ldc 22, 2) := by decide +kernel
theorem dX4_share_13 : decode cX4_share 13 = .ok (.ireturn, 1) := by decide +kernel
theorem dX4_share_14 : decode cX4_share 14 = .ok (.iconst 0, 1) := by decide +kernel
theorem dX4_share_15 : decode cX4_share 15 = .ok (.istore_n 2, 1) := by decide +kernel
theorem dX4_share_16 : decode cX4_share 16 = .ok (.iconst 0, 1) := by decide +kernel
theorem dX4_share_17 : decode cX4_share 17 = .ok (.istore_n 3, 1) := by decide +kernel
theorem dX4_share_18 : decode cX4_share 18 = .ok (.iload_n 3, 1) := by decide +kernel
theorem dX4_share_19 : decode cX4_share 19 = .ok (.bipush 64, 2) := by decide +kernel
theorem dX4_share_21 : decode cX4_share 21 = .ok (.if_icmp .ge 25, 3) := by decide +kernel
theorem dX4_share_24 : decode cX4_share 24 = .ok (.iload_n 2, 1) := by decide +kernel
theorem dX4_share_25 : decode cX4_share 25 = .ok (.iload_n 1, 1) := by decide +kernel
theorem dX4_share_26 : decode cX4_share 26 = .ok (.iload_n 3, 1) := by decide +kernel
theorem dX4_share_27 : decode cX4_share 27 = .ok (.invokestatic 126, 3) := by decide +kernel
theorem dX4_share_30 : decode cX4_share 30 = .ok (.ifCond .eq 7, 3) := by decide +kernel
theorem dX4_share_33 : decode cX4_share 33 = .ok (.iconst 1, 1) := by decide +kernel
theorem dX4_share_34 : decode cX4_share 34 = .ok (.goto 4, 3) := by decide +kernel
theorem dX4_share_37 : decode cX4_share 37 = .ok (.iconst 0, 1) := by decide +kernel
theorem dX4_share_38 : decode cX4_share 38 = .ok (.iadd, 1) := by decide +kernel
theorem dX4_share_39 : decode cX4_share 39 = .ok (.istore_n 2, 1) := by decide +kernel
theorem dX4_share_40 : decode cX4_share 40 = .ok (.iinc 3 1, 3) := by decide +kernel
theorem dX4_share_43 : decode cX4_share 43 = .ok (.goto (-25), 3) := by decide +kernel
theorem dX4_share_46 : decode cX4_share 46 = .ok (.iload_n 2, 1) := by decide +kernel
theorem dX4_share_47 : decode cX4_share 47 = .ok (.i2f, 1) := by decide +kernel
theorem dX4_share_48 : decode cX4_share 48 = .ok (.fstore_n 3, 1) := by decide +kernel
theorem dX4_share_49 : decode cX4_share 49 = .ok (.fload_n 3, 1) := by decide +kernel
theorem dX4_share_50 : decode cX4_share 50 = .ok (.ldc 145, 2) := by decide +kernel
theorem dX4_share_52 : decode cX4_share 52 = .ok (.fdiv, 1) := by decide +kernel
theorem dX4_share_53 : decode cX4_share 53 = .ok (.invokestatic 146, 3) := by decide +kernel
theorem dX4_share_56 : decode cX4_share 56 = .ok (.ireturn, 1) := by decide +kernel
set_option maxRecDepth 20000 in
theorem ggX4_withStatus_X4_of : GoodIn wsX4_withStatus wsX4_of := goodIn_r _ [6, 1, 7, 8, 9, 10, 11, 12, 13, 14] (by decide +kernel) (by decide +kernel)
set_option maxRecDepth 20000 in
theorem gX4_withStatus_X4_of : GoodIn wsX4_withStatus (wsV RX4 34 RX4 yX4_of wsX4_of) := goodIn_app (goodIn_of _ (by decide +kernel)) ggX4_withStatus_X4_of
theorem dX4_withStatus_0 : decode cX4_withStatus 0 = .ok (.iconst 0, 1) := by decide +kernel
theorem dX4_withStatus_1 : decode cX4_withStatus 1 = .ok (.istore_n 2, 1) := by decide +kernel
theorem dX4_withStatus_2 : decode cX4_withStatus 2 = .ok (.iconst 0, 1) := by decide +kernel
theorem dX4_withStatus_3 : decode cX4_withStatus 3 = .ok (.istore_n 3, 1) := by decide +kernel
theorem dX4_withStatus_4 : decode cX4_withStatus 4 = .ok (.iload_n 3, 1) := by decide +kernel
theorem dX4_withStatus_5 : decode cX4_withStatus 5 = .ok (.aload_n 0, 1) := by decide +kernel
theorem dX4_withStatus_6 : decode cX4_withStatus 6 = .ok (.getfield 7, 3) := by decide +kernel
theorem dX4_withStatus_9 : decode cX4_withStatus 9 = .ok (.iconst 0, 1) := by decide +kernel
theorem dX4_withStatus_10 : decode cX4_withStatus 10 = .ok (.iaload, 1) := by decide +kernel
theorem dX4_withStatus_11 : decode cX4_withStatus 11 = .ok (.if_icmp .ge 27, 3) := by decide +kernel
theorem dX4_withStatus_14 : decode cX4_withStatus 14 = .ok (.iload_n 2, 1) := by decide +kernel
theorem dX4_withStatus_15 : decode cX4_withStatus 15 = .ok (.aload_n 0, 1) := by decide +kernel
theorem dX4_withStatus_16 : decode cX4_withStatus 16 = .ok (.iload_n 3, 1) := by decide +kernel
theorem dX4_withStatus_17 : decode cX4_withStatus 17 = .ok (.iconst 1, 1) := by decide +kernel
theorem dX4_withStatus_18 : decode cX4_withStatus 18 = .ok (.invokevirtual 34, 3) := by decide +kernel
theorem dX4_withStatus_21 : decode cX4_withStatus 21 = .ok (.iload_n 1, 1) := by decide +kernel
theorem dX4_withStatus_22 : decode cX4_withStatus 22 = .ok (.if_icmp .ne 7, 3) := by decide +kernel
theorem dX4_withStatus_25 : decode cX4_withStatus 25 = .ok (.iconst 1, 1) := by decide +kernel
theorem dX4_withStatus_26 : decode cX4_withStatus 26 = .ok (.goto 4, 3) := by decide +kernel
theorem dX4_withStatus_29 : decode cX4_withStatus 29 = .ok (.iconst 0, 1) := by decide +kernel
theorem dX4_withStatus_30 : decode cX4_withStatus 30 = .ok (.iadd, 1) := by decide +kernel
theorem dX4_withStatus_31 : decode cX4_withStatus 31 = .ok (.istore_n 2, 1) := by decide +kernel
theorem dX4_withStatus_32 : decode cX4_withStatus 32 = .ok (.iinc 3 1, 3) := by decide +kernel
theorem dX4_withStatus_35 : decode cX4_withStatus 35 = .ok (.goto (-31), 3) := by decide +kernel
theorem dX4_withStatus_38 : decode cX4_withStatus 38 = .ok (.iload_n 2, 1) := by decide +kernel
theorem dX4_withStatus_39 : decode cX4_withStatus 39 = .ok (.ireturn, 1) := by decide +kernel
set_option maxRecDepth 20000 in
theorem ggX4_count_X4_withStatus : GoodIn wsX4_count wsX4_withStatus := goodIn_r _ [9, 1, 10, 11, 12, 8, 13, 17, 18, 19, 20, 21, 22, 23, 24] (by decide +kernel) (by decide +kernel)
set_option maxRecDepth 20000 in
theorem gX4_count_X4_withStatus : GoodIn wsX4_count (wsV RX4 152 RX4 yX4_withStatus wsX4_withStatus) := goodIn_app (goodIn_of _ (by decide +kernel)) ggX4_count_X4_withStatus
set_option maxRecDepth 20000 in
theorem ggX4_count_X4_in : GoodIn wsX4_count wsX4_in := goodIn_r _ [16] (by decide +kernel) (by decide +kernel)
set_option maxRecDepth 20000 in
theorem gX4_count_X4_in : GoodIn wsX4_count (va_wsS RX4 30 yX4_in wsX4_in) := goodIn_app (goodIn_of _ (by decide +kernel)) ggX4_count_X4_in
theorem dX4_count_0 : decode cX4_count 0 = .ok (.iload_n 1, 1) := by decide +kernel
theorem dX4_count_1 : decode cX4_count 1 = .ok (.tableswitch 108 0 9 #[55, 62, 62, 62, 70, 77, 84, 91, 98, 103], 55) := by decide +kernel
theorem dX4_count_56 : decode cX4_count 56 = .ok (.aload_n 0, 1) := by decide +kernel
theorem dX4_count_57 : decode cX4_count 57 = .ok (.getfield 7, 3) := by decide +kernel
theorem dX4_count_60 : decode cX4_count 60 = .ok (.iconst 0, 1) := by decide +kernel
theorem dX4_count_61 : decode cX4_count 61 = .ok (.iaload, 1) := by decide +kernel
theorem dX4_count_62 : decode cX4_count 62 = .ok (.ireturn, 1) := by decide +kernel
theorem dX4_count_63 : decode cX4_count 63 = .ok (.aload_n 0, 1) := by decide +kernel
theorem dX4_count_64 : decode cX4_count 64 = .ok (.iload_n 1, 1) := by decide +kernel
