theorem dX2_whereItBreaksOff_75 : decode cX2_whereItBreaksOff 75 = .ok (.iinc 2 1, 3) := by decide +kernel
theorem dX2_whereItBreaksOff_78 : decode cX2_whereItBreaksOff 78 = .ok (.goto (-74), 3) := by decide +kernel
theorem dX2_whereItBreaksOff_81 : decode cX2_whereItBreaksOff 81 = .ok (.aload_n 0, 1) := by decide +kernel
theorem dX2_whereItBreaksOff_82 : decode cX2_whereItBreaksOff 82 = .ok (.getfield 15, 3) := by decide +kernel
theorem dX2_whereItBreaksOff_85 : decode cX2_whereItBreaksOff 85 = .ok (.ifCond .eq 21, 3) := by decide +kernel
theorem dX2_whereItBreaksOff_88 : decode cX2_whereItBreaksOff 88 = .ok (.aload_n 0, 1) := by decide +kernel
theorem dX2_whereItBreaksOff_89 : decode cX2_whereItBreaksOff 89 = .ok (.getfield 9, 3) := by decide +kernel
theorem dX2_whereItBreaksOff_92 : decode cX2_whereItBreaksOff 92 = .ok (.aload_n 0, 1) := by decide +kernel
theorem dX2_whereItBreaksOff_93 : decode cX2_whereItBreaksOff 93 = .ok (.getfield 15, 3) := by decide +kernel
theorem dX2_whereItBreaksOff_96 : decode cX2_whereItBreaksOff 96 = .ok (.iconst 1, 1) := by decide +kernel
theorem dX2_whereItBreaksOff_97 : decode cX2_whereItBreaksOff 97 = .ok (.isub, 1) := by decide +kernel
theorem dX2_whereItBreaksOff_98 : decode cX2_whereItBreaksOff 98 = .ok (.invokestatic 23, 3) := by decide +kernel
theorem dX2_whereItBreaksOff_101 : decode cX2_whereItBreaksOff 101 = .ok (.bipush 59, 2) := by decide +kernel
theorem dX2_whereItBreaksOff_103 : decode cX2_whereItBreaksOff 103 = .ok (.if_icmp .ne 7, 3) := by decide +kernel
theorem dX2_whereItBreaksOff_106 : decode cX2_whereItBreaksOff 106 = .ok (.iconst (-1), 1) := by decide +kernel
theorem dX2_whereItBreaksOff_107 : decode cX2_whereItBreaksOff 107 = .ok (.goto 7, 3) := by decide +kernel
theorem dX2_whereItBreaksOff_110 : decode cX2_whereItBreaksOff 110 = .ok (.aload_n 0, 1) := by decide +kernel
theorem dX2_whereItBreaksOff_111 : decode cX2_whereItBreaksOff 111 = .ok (.getfield 15, 3) := by decide +kernel
theorem dX2_whereItBreaksOff_114 : decode cX2_whereItBreaksOff 114 = .ok (.ireturn, 1) := by decide +kernel
set_option maxRecDepth 20000 in
theorem ggX2_startOfClause_X3_at : GoodIn wsX2_startOfClause wsX3_at := goodIn_r _ [4] (by decide +kernel) (by decide +kernel)
set_option maxRecDepth 20000 in
theorem gX2_startOfClause_X3_at_n23 : GoodIn wsX2_startOfClause (wsX3_at) := ggX2_startOfClause_X3_at
theorem dX2_startOfClause_0 : decode cX2_startOfClause 0 = .ok (.iload_n 1, 1) := by decide +kernel
theorem dX2_startOfClause_1 : decode cX2_startOfClause 1 = .ok (.iconst 1, 1) := by decide +kernel
theorem dX2_startOfClause_2 : decode cX2_startOfClause 2 = .ok (.isub, 1) := by decide +kernel
theorem dX2_startOfClause_3 : decode cX2_startOfClause 3 = .ok (.istore_n 2, 1) := by decide +kernel
theorem dX2_startOfClause_4 : decode cX2_startOfClause 4 = .ok (.iload_n 2, 1) := by decide +kernel
theorem dX2_startOfClause_5 : decode cX2_startOfClause 5 = .ok (.ifCond .lt 26, 3) := by decide +kernel
theorem dX2_startOfClause_8 : decode cX2_startOfClause 8 = .ok (.aload_n 0, 1) := by decide +kernel
theorem dX2_startOfClause_9 : decode cX2_startOfClause 9 = .ok (.getfield 9, 3) := by decide +kernel
theorem dX2_startOfClause_12 : decode cX2_startOfClause 12 = .ok (.iload_n 2, 1) := by decide +kernel
theorem dX2_startOfClause_13 : decode cX2_startOfClause 13 = .ok (.invokestatic 23, 3) := by decide +kernel
theorem dX2_startOfClause_16 : decode cX2_startOfClause 16 = .ok (.bipush 59, 2) := by decide +kernel
theorem dX2_startOfClause_18 : decode cX2_startOfClause 18 = .ok (.if_icmp .ne 7, 3) := by decide +kernel
theorem dX2_startOfClause_21 : decode cX2_startOfClause 21 = .ok (.iload_n 2, 1) := by decide +kernel
theorem dX2_startOfClause_22 : decode cX2_startOfClause 22 = .ok (.iconst 1, 1) := by decide +kernel
theorem dX2_startOfClause_23 : decode cX2_startOfClause 23 = .ok (.iadd, 1) := by decide +kernel
theorem dX2_startOfClause_24 : decode cX2_startOfClause 24 = .ok (.ireturn, 1) := by decide +kernel
theorem dX2_startOfClause_25 : decode cX2_startOfClause 25 = .ok (.iinc 2 (-1), 3) := by decide +kernel
theorem dX2_startOfClause_28 : decode cX2_startOfClause 28 = .ok (.goto (-24), 3) := by decide +kernel
theorem dX2_startOfClause_31 : decode cX2_startOfClause 31 = .ok (.iconst 0, 1) := by decide +kernel
theorem dX2_startOfClause_32 : decode cX2_startOfClause 32 = .ok (.ireturn, 1) := by decide +kernel
set_option maxRecDepth 20000 in
theorem ggX3_init_X1_init : GoodIn wsX3_init wsX1_init := goodIn_r _ [17, 18, 2, 3, 19, 20, 21, 22, 23, 24, 25, 26, 27, 28, 29, 30, 31, 32, 33, 34, 35, 36, 48, 49, 50, 51, 52, 53, 54, 55, 56, 57, 58, 59, 60] (by decide +kernel) (by decide +kernel)
set_option maxRecDepth 20000 in
theorem gX3_init_X1_init_n9 : GoodIn wsX3_init (wsX1_init) := ggX3_init_X1_init
set_option maxRecDepth 20000 in
theorem ggX3_init_X0_init : GoodIn wsX3_init wsX0_init := goodIn_r _ [38, 39, 2, 3, 40, 41, 42, 5, 6, 16, 17, 18, 19, 20, 21, 22, 23, 24, 25, 26, 27, 28, 29, 30, 31, 32, 33, 34, 35, 36, 64, 65, 48, 49, 50, 51, 52, 53, 54, 55, 56, 57, 58, 59, 60] (by decide +kernel) (by decide +kernel)
set_option maxRecDepth 20000 in
theorem gX3_init_X0_init_n18 : GoodIn wsX3_init (wsX0_init) := ggX3_init_X0_init
set_option maxRecDepth 20000 in
theorem ggX3_init_X2_init : GoodIn wsX3_init wsX2_init := goodIn_r _ [44, 45, 2, 3, 19, 46, 47, 66, 67] (by decide +kernel) (by decide +kernel)
set_option maxRecDepth 20000 in
theorem gX3_init_X2_init_n25 : GoodIn wsX3_init (wsX2_init) := ggX3_init_X2_init
theorem dX3_init_0 : decode cX3_init 0 = .ok (.aload_n 0, 1) := by decide +kernel
theorem dX3_init_1 : decode cX3_init 1 = .ok (.invokespecial 1, 3) := by decide +kernel
theorem dX3_init_4 : decode cX3_init 4 = .ok (.aload_n 0, 1) := by decide +kernel
theorem dX3_init_5 : decode cX3_init 5 = .ok (.new 7, 3) := by decide +kernel
theorem dX3_init_8 : decode cX3_init 8 = .ok (.dup, 1) := by decide +kernel
theorem dX3_init_9 : decode cX3_init 9 = .ok (.invokespecial 9, 3) := by decide +kernel
theorem dX3_init_12 : decode cX3_init 12 = .ok (.putfield 10, 3) := by decide +kernel
theorem dX3_init_15 : decode cX3_init 15 = .ok (.aload_n 0, 1) := by decide +kernel
theorem dX3_init_16 : decode cX3_init 16 = .ok (.new 16, 3) := by decide +kernel
theorem dX3_init_19 : decode cX3_init 19 = .ok (.dup, 1) := by decide +kernel
theorem dX3_init_20 : decode cX3_init 20 = .ok (.invokespecial 18, 3) := by decide +kernel
theorem dX3_init_23 : decode cX3_init 23 = .ok (.putfield 19, 3) := by decide +kernel
theorem dX3_init_26 : decode cX3_init 26 = .ok (.aload_n 0, 1) := by decide +kernel
theorem dX3_init_27 : decode cX3_init 27 = .ok (.new 23, 3) := by decide +kernel
theorem dX3_init_30 : decode cX3_init 30 = .ok (.dup, 1) := by decide +kernel
theorem dX3_init_31 : decode cX3_init 31 = .ok (.invokespecial 25, 3) := by decide +kernel
theorem dX3_init_34 : decode cX3_init 34 = .ok (.putfield 26, 3) := by decide +kernel
theorem dX3_init_37 : decode cX3_init 37 = .ok (.return_, 1) := by decide +kernel
set_option maxRecDepth 20000 in
theorem ggX3_tell_X0_putAside : GoodIn wsX3_tell wsX0_putAside := goodIn_r _ [7, 8, 9, 10, 11, 5, 12, 13, 14, 15, 16, 17, 18, 19, 20, 21, 22, 23, 24, 25, 26, 27, 28, 29, 30, 31, 32, 33, 34, 35, 36, 37, 38, 39, 40, 41, 42, 43, 101, 102, 103, 104, 105, 106, 107, 108, 109, 110, 111, 112, 113, 114, 115] (by decide +kernel) (by decide +kernel)
set_option maxRecDepth 20000 in
theorem gX3_tell_X0_putAside_n31 : GoodIn wsX3_tell (wsX0_putAside) := ggX3_tell_X0_putAside
set_option maxRecDepth 20000 in
theorem ggX3_tell_X1_bring : GoodIn wsX3_tell wsX1_bring := goodIn_r _ [46, 29, 30, 26, 47, 48, 32, 49, 50, 51, 52, 15, 53, 19, 54, 55, 56, 57, 20, 58, 59, 60, 61, 62, 63, 64, 65, 66, 67, 68, 69, 70, 71, 21, 22, 23, 24, 72, 73, 36, 74, 25, 75, 76, 77, 78, 79, 80, 81, 82, 83, 103, 104, 105, 106, 107, 108, 109, 110, 111, 112, 113, 114, 115] (by decide +kernel) (by decide +kernel)
set_option maxRecDepth 20000 in
theorem gX3_tell_X1_bring_n35 : GoodIn wsX3_tell (wsX1_bring) := ggX3_tell_X1_bring
set_option maxRecDepth 20000 in
theorem ggX3_tell_X3_settle : GoodIn wsX3_tell wsX3_settle := goodIn_r _ [87, 1, 2, 3, 88, 5, 89, 90, 8, 9, 10, 11, 12, 13, 14, 15, 16, 17, 18, 19, 20, 21, 22, 23, 24, 25, 26, 27, 28, 29, 30, 31, 32, 33, 34, 35, 36, 37, 38, 39, 40, 41, 42, 43, 91, 92, 93, 94, 95, 96, 97, 98, 99, 100, 101, 102, 103, 104, 105, 106, 107, 108, 109, 110, 111, 112, 113, 114, 115] (by decide +kernel) (by decide +kernel)
set_option maxRecDepth 20000 in
theorem gX3_tell_X3_settle : GoodIn wsX3_tell (wsV RX3 39 RX3 yX3_settle wsX3_settle) := goodIn_app (goodIn_of _ (by decide +kernel)) ggX3_tell_X3_settle
theorem dX3_tell_0 : decode cX3_tell 0 = .ok (.iload_n 1, 1) := by decide +kernel
theorem dX3_tell_1 : decode cX3_tell 1 = .ok (.ifCond .lt 10, 3) := by decide +kernel
theorem dX3_tell_4 : decode cX3_tell 4 = .ok (.iload_n 1, 1) := by decide +kernel
theorem dX3_tell_5 : decode cX3_tell 5 = .ok (.sipush 4095, 3) := by decide +kernel
theorem dX3_tell_8 : decode cX3_tell 8 = .ok (.if_icmp .le 6, 3) := by decide +kernel
theorem dX3_tell_11 : decode cX3_tell 11 = .ok (.ldc 30, 2) := by decide +kernel
theorem dX3_tell_13 : decode cX3_tell 13 = .ok (.ireturn, 1) := by decide +kernel
theorem dX3_tell_14 : decode cX3_tell 14 = .ok (.aload_n 0, 1) := by decide +kernel
theorem dX3_tell_15 : decode cX3_tell 15 = .ok (.getfield 19, 3) := by decide +kernel
theorem dX3_tell_18 : decode cX3_tell 18 = .ok (.aload_n 0, 1) := by decide +kernel
theorem dX3_tell_19 : decode cX3_tell 19 = .ok (.getfield 10, 3) := by decide +kernel
theorem dX3_tell_22 : decode cX3_tell 22 = .ok (.invokevirtual 31, 3) := by decide +kernel
theorem dX3_tell_25 : decode cX3_tell 25 = .ok (.aload_n 0, 1) := by decide +kernel
theorem dX3_tell_26 : decode cX3_tell 26 = .ok (.aload_n 0, 1) := by decide +kernel
theorem dX3_tell_27 : decode cX3_tell 27 = .ok (.getfield 10, 3) := by decide +kernel
theorem dX3_tell_30 : decode cX3_tell 30 = .ok (.iload_n 1, 1) := by decide +kernel
theorem dX3_tell_31 : decode cX3_tell 31 = .ok (.iconst (-1), 1) := by decide +kernel
theorem dX3_tell_32 : decode cX3_tell 32 = .ok (.iconst (-1), 1) := by decide +kernel
theorem dX3_tell_33 : decode cX3_tell 33 = .ok (.iconst (-1), 1) := by decide +kernel
theorem dX3_tell_34 : decode cX3_tell 34 = .ok (.invokevirtual 35, 3) := by decide +kernel
theorem dX3_tell_37 : decode cX3_tell 37 = .ok (.invokevirtual 39, 3) := by decide +kernel
theorem dX3_tell_40 : decode cX3_tell 40 = .ok (.ireturn, 1) := by decide +kernel
set_option maxRecDepth 20000 in
theorem ggX3_rank_X0_putAside : GoodIn wsX3_rank wsX0_putAside := goodIn_r _ [7, 8, 9, 10, 11, 5, 12, 13, 14, 15, 16, 17, 18, 19, 20, 21, 22, 23, 24, 25, 26, 27, 28, 29, 30, 31, 32, 33, 34, 35, 36, 37, 38, 39, 40, 41, 42, 43, 72, 73, 74, 75, 76, 77, 78, 79, 80, 81, 82, 83, 84, 85, 86] (by decide +kernel) (by decide +kernel)
set_option maxRecDepth 20000 in
theorem gX3_rank_X0_putAside_n31 : GoodIn wsX3_rank (wsX0_putAside) := ggX3_rank_X0_putAside
set_option maxRecDepth 20000 in
theorem ggX3_rank_X1_changeRank : GoodIn wsX3_rank wsX1_changeRank := goodIn_r _ [46, 18, 26, 20, 47, 48, 49, 15, 50, 51, 32, 52, 53, 54, 74, 75, 76, 77, 78, 79, 80, 81, 82, 83, 84, 85, 86] (by decide +kernel) (by decide +kernel)
set_option maxRecDepth 20000 in
theorem gX3_rank_X1_changeRank_n43 : GoodIn wsX3_rank (wsX1_changeRank) := ggX3_rank_X1_changeRank
set_option maxRecDepth 20000 in
theorem ggX3_rank_X3_settle : GoodIn wsX3_rank wsX3_settle := goodIn_r _ [58, 1, 2, 3, 59, 5, 60, 61, 8, 9, 10, 11, 12, 13, 14, 15, 16, 17, 18, 19, 20, 21, 22, 23, 24, 25, 26, 27, 28, 29, 30, 31, 32, 33, 34, 35, 36, 37, 38, 39, 40, 41, 42, 43, 62, 63, 64, 65, 66, 67, 68, 69, 70, 71, 72, 73, 74, 75, 76, 77, 78, 79, 80, 81, 82, 83, 84, 85, 86] (by decide +kernel) (by decide +kernel)
set_option maxRecDepth 20000 in
theorem gX3_rank_X3_settle : GoodIn wsX3_rank (wsV RX3 39 RX3 yX3_settle wsX3_settle) := goodIn_app (goodIn_of _ (by decide +kernel)) ggX3_rank_X3_settle
theorem dX3_rank_0 : decode cX3_rank 0 = .ok (.iload_n 1, 1) := by decide +kernel
theorem dX3_rank_1 : decode cX3_rank 1 = .ok (.ifCond .lt 19, 3) := by decide +kernel
theorem dX3_rank_4 : decode cX3_rank 4 = .ok (.iload_n 1, 1) := by decide +kernel
theorem dX3_rank_5 : decode cX3_rank 5 = .ok (.bipush 6, 2) := by decide +kernel
theorem dX3_rank_7 : decode cX3_rank 7 = .ok (.if_icmp .ge 13, 3) := by decide +kernel
theorem dX3_rank_10 : decode cX3_rank 10 = .ok (.iload_n 2, 1) := by decide +kernel
theorem dX3_rank_11 : decode cX3_rank 11 = .ok (.ifCond .lt 9, 3) := by decide +kernel
theorem dX3_rank_14 : decode cX3_rank 14 = .ok (.iload_n 2, 1) := by decide +kernel
theorem dX3_rank_15 : decode cX3_rank 15 = .ok (.bipush 6, 2) := by decide +kernel
theorem dX3_rank_17 : decode cX3_rank 17 = .ok (.if_icmp .lt 6, 3) := by decide +kernel
theorem dX3_rank_20 : decode cX3_rank 20 = .ok (.ldc 30, 2) := by decide +kernel
theorem dX3_rank_22 : decode cX3_rank 22 = .ok (.ireturn, 1) := by decide +kernel
theorem dX3_rank_23 : decode cX3_rank 23 = .ok (.aload_n 0, 1) := by decide +kernel
theorem dX3_rank_24 : decode cX3_rank 24 = .ok (.getfield 19, 3) := by decide +kernel
theorem dX3_rank_27 : decode cX3_rank 27 = .ok (.aload_n 0, 1) := by decide +kernel
theorem dX3_rank_28 : decode cX3_rank 28 = .ok (.getfield 10, 3) := by decide +kernel
theorem dX3_rank_31 : decode cX3_rank 31 = .ok (.invokevirtual 31, 3) := by decide +kernel
theorem dX3_rank_34 : decode cX3_rank 34 = .ok (.aload_n 0, 1) := by decide +kernel
theorem dX3_rank_35 : decode cX3_rank 35 = .ok (.aload_n 0, 1) := by decide +kernel
theorem dX3_rank_36 : decode cX3_rank 36 = .ok (.getfield 10, 3) := by decide +kernel
theorem dX3_rank_39 : decode cX3_rank 39 = .ok (.iload_n 1, 1) := by decide +kernel
theorem dX3_rank_40 : decode cX3_rank 40 = .ok (.iload_n 2, 1) := by decide +kernel
theorem dX3_rank_41 : decode cX3_rank 41 = .ok (.invokevirtual 43, 3) := by decide +kernel
theorem dX3_rank_44 : decode cX3_rank 44 = .ok (.invokevirtual 39, 3) := by decide +kernel
theorem dX3_rank_47 : decode cX3_rank 47 = .ok (.ireturn, 1) := by decide +kernel
set_option maxRecDepth 20000 in
theorem ggX3_set_X0_putAside : GoodIn wsX3_set wsX0_putAside := goodIn_r _ [7, 8, 9, 10, 11, 5, 12, 13, 14, 15, 16, 17, 18, 19, 20, 21, 22, 23, 24, 25, 26, 27, 28, 29, 30, 31, 32, 33, 34, 35, 36, 37, 38, 39, 40, 41, 42, 43, 74, 75, 61, 62, 63, 64, 65, 66, 67, 68, 69, 70, 71, 72, 73] (by decide +kernel) (by decide +kernel)
set_option maxRecDepth 20000 in
theorem gX3_set_X0_putAside_n31 : GoodIn wsX3_set (wsX0_putAside) := ggX3_set_X0_putAside
set_option maxRecDepth 20000 in
theorem ggX3_set_X3_settle : GoodIn wsX3_set wsX3_settle := goodIn_r _ [47, 1, 2, 3, 48, 5, 49, 50, 8, 9, 10, 11, 12, 13, 14, 15, 16, 17, 18, 19, 20, 21, 22, 23, 24, 25, 26, 27, 28, 29, 30, 31, 32, 33, 34, 35, 36, 37, 38, 39, 40, 41, 42, 43, 51, 52, 53, 54, 55, 56, 57, 58, 59, 60, 74, 75, 61, 62, 63, 64, 65, 66, 67, 68, 69, 70, 71, 72, 73] (by decide +kernel) (by decide +kernel)
set_option maxRecDepth 20000 in
theorem gX3_set_X3_settle : GoodIn wsX3_set (wsV RX3 39 RX3 yX3_settle wsX3_settle) := goodIn_app (goodIn_of _ (by decide +kernel)) ggX3_set_X3_settle
theorem dX3_set_0 : decode cX3_set 0 = .ok (.iload_n 1, 1) := by decide +kernel
theorem dX3_set_1 : decode cX3_set 1 = .ok (.iconst 1, 1) := by decide +kernel
theorem dX3_set_2 : decode cX3_set 2 = .ok (.if_icmp .lt 9, 3) := by decide +kernel
theorem dX3_set_5 : decode cX3_set 5 = .ok (.iload_n 1, 1) := by decide +kernel
theorem dX3_set_6 : decode cX3_set 6 = .ok (.bipush 9, 2) := by decide +kernel
theorem dX3_set_8 : decode cX3_set 8 = .ok (.if_icmp .le 6, 3) := by decide +kernel
theorem dX3_set_11 : decode cX3_set 11 = .ok (.ldc 30, 2) := by decide +kernel
theorem dX3_set_13 : decode cX3_set 13 = .ok (.ireturn, 1) := by decide +kernel
theorem dX3_set_14 : decode cX3_set 14 = .ok (.aload_n 0, 1) := by decide +kernel
theorem dX3_set_15 : decode cX3_set 15 = .ok (.getfield 19, 3) := by decide +kernel
theorem dX3_set_18 : decode cX3_set 18 = .ok (.aload_n 0, 1) := by decide +kernel
theorem dX3_set_19 : decode cX3_set 19 = .ok (.getfield 10, 3) := by decide +kernel
theorem dX3_set_22 : decode cX3_set 22 = .ok (.invokevirtual 31, 3) := by decide +kernel
theorem dX3_set_25 : decode cX3_set 25 = .ok (.aload_n 0, 1) := by decide +kernel
theorem dX3_set_26 : decode cX3_set 26 = .ok (.getfield 10, 3) := by decide +kernel
theorem dX3_set_29 : decode cX3_set 29 = .ok (.getfield 47, 3) := by decide +kernel
theorem dX3_set_32 : decode cX3_set 32 = .ok (.istore_n 2, 1) := by decide +kernel
theorem dX3_set_33 : decode cX3_set 33 = .ok (.aload_n 0, 1) := by decide +kernel
theorem dX3_set_34 : decode cX3_set 34 = .ok (.getfield 10, 3) := by decide +kernel
theorem dX3_set_37 : decode cX3_set 37 = .ok (.iload_n 1, 1) := by decide +kernel
theorem dX3_set_38 : decode cX3_set 38 = .ok (.putfield 47, 3) := by decide +kernel
theorem dX3_set_41 : decode cX3_set 41 = .ok (.aload_n 0, 1) := by decide +kernel
theorem dX3_set_42 : decode cX3_set 42 = .ok (.iload_n 2, 1) := by decide +kernel
theorem dX3_set_43 : decode cX3_set 43 = .ok (.invokevirtual 39, 3) := by decide +kernel
theorem dX3_set_46 : decode cX3_set 46 = .ok (.ireturn, 1) := by decide +kernel
set_option maxRecDepth 20000 in
theorem ggX3_step_X0_putAside : GoodIn wsX3_step wsX0_putAside := goodIn_r _ [6, 7, 8, 9, 10, 4, 11, 12, 13, 14, 15, 16, 17, 18, 19, 20, 21, 22, 23, 24, 25, 26, 27, 28, 29, 30, 31, 32, 33, 34, 35, 36, 37, 38, 39, 40, 41, 42, 129, 130, 131, 132, 133, 134, 135, 136, 137, 138, 139, 140, 141, 142, 143] (by decide +kernel) (by decide +kernel)
set_option maxRecDepth 20000 in
theorem gX3_step_X0_putAside_n31 : GoodIn wsX3_step (wsX0_putAside) := ggX3_step_X0_putAside
set_option maxRecDepth 20000 in
theorem ggX3_step_X1_takeStep : GoodIn wsX3_step wsX1_takeStep := goodIn_r _ [45, 46, 26, 19, 47, 48, 49, 50, 14, 51, 25, 18, 52, 31, 53, 54, 55, 56, 57, 27, 58, 59, 60, 61, 62, 63, 64, 65, 66, 67, 68, 69, 70, 71, 72, 73, 74, 17, 75, 76, 77, 78, 79, 80, 81, 82, 28, 29, 83, 84, 85, 86, 87, 88, 89, 90, 91, 92, 93, 94, 95, 96, 97, 98, 20, 21, 22, 23, 99, 100, 35, 101, 24, 102, 103, 104, 105, 106, 107, 108, 109, 110, 131, 132, 133, 134, 135, 136, 137, 138, 139, 140, 141, 142, 143] (by decide +kernel) (by decide +kernel)
set_option maxRecDepth 20000 in
theorem gX3_step_X1_takeStep_n51 : GoodIn wsX3_step (wsX1_takeStep) := ggX3_step_X1_takeStep
set_option maxRecDepth 20000 in
theorem ggX3_step_X3_settle : GoodIn wsX3_step wsX3_settle := goodIn_r _ [114, 115, 1, 2, 116, 4, 117, 118, 7, 8, 9, 10, 11, 12, 13, 14, 15, 16, 17, 18, 19, 20, 21, 22, 23, 24, 25, 26, 27, 28, 29, 30, 31, 32, 33, 34, 35, 36, 37, 38, 39, 40, 41, 42, 119, 120, 121, 122, 123, 124, 125, 126, 127, 128, 129, 130, 131, 132, 133, 134, 135, 136, 137, 138, 139, 140, 141, 142, 143] (by decide +kernel) (by decide +kernel)
set_option maxRecDepth 20000 in
theorem gX3_step_X3_settle : GoodIn wsX3_step (wsV RX3 39 RX3 yX3_settle wsX3_settle) := goodIn_app (goodIn_of _ (by decide +kernel)) ggX3_step_X3_settle
theorem dX3_step_0 : decode cX3_step 0 = .ok (.aload_n 0, 1) := by decide +kernel
theorem dX3_step_1 : decode cX3_step 1 = .ok (.getfield 19, 3) := by decide +kernel
theorem dX3_step_4 : decode cX3_step 4 = .ok (.aload_n 0, 1) := by decide +kernel
theorem dX3_step_5 : decode cX3_step 5 = .ok (.getfield 10, 3) := by decide +kernel
theorem dX3_step_8 : decode cX3_step 8 = .ok (.invokevirtual 31, 3) := by decide +kernel
theorem dX3_step_11 : decode cX3_step 11 = .ok (.aload_n 0, 1) := by decide +kernel
theorem dX3_step_12 : decode cX3_step 12 = .ok (.aload_n 0, 1) := by decide +kernel
theorem dX3_step_13 : decode cX3_step 13 = .ok (.getfield 10, 3) := by decide +kernel
theorem dX3_step_16 : decode cX3_step 16 = .ok (.invokevirtual 51, 3) := by decide +kernel
theorem dX3_step_19 : decode cX3_step 19 = .ok (.invokevirtual 39, 3) := by decide +kernel
theorem dX3_step_22 : decode cX3_step 22 = .ok (.ireturn, 1) := by decide +kernel
set_option maxRecDepth 20000 in
theorem ggX3_run_X0_putAside : GoodIn wsX3_run wsX0_putAside := goodIn_r _ [9, 10, 11, 12, 13, 7, 14, 15, 16, 17, 18, 19, 20, 21, 22, 23, 24, 25, 26, 27, 28, 29, 30, 31, 32, 33, 34, 35, 36, 37, 38, 39, 40, 41, 42, 43, 44, 45, 131, 132, 133, 134, 135, 136, 137, 138, 139, 140, 141, 142, 143, 144, 145] (by decide +kernel) (by decide +kernel)
set_option maxRecDepth 20000 in
theorem gX3_run_X0_putAside_n31 : GoodIn wsX3_run (wsX0_putAside) := ggX3_run_X0_putAside
set_option maxRecDepth 20000 in
theorem ggX3_run_X1_takeStep : GoodIn wsX3_run wsX1_takeStep := goodIn_r _ [48, 49, 29, 22, 50, 51, 52, 53, 17, 54, 28, 21, 55, 34, 56, 57, 58, 59, 60, 30, 61, 62, 63, 64, 65, 66, 67, 68, 69, 70, 71, 72, 73, 74, 75, 76, 77, 20, 78, 79, 80, 81, 82, 83, 84, 85, 31, 32, 86, 87, 88, 89, 90, 91, 92, 93, 94, 95, 96, 97, 98, 99, 100, 101, 23, 24, 25, 26, 102, 103, 38, 104, 27, 105, 106, 107, 108, 109, 110, 111, 112, 113, 133, 134, 135, 136, 137, 138, 139, 140, 141, 142, 143, 144, 145] (by decide +kernel) (by decide +kernel)
set_option maxRecDepth 20000 in
theorem gX3_run_X1_takeStep_n51 : GoodIn wsX3_run (wsX1_takeStep) := ggX3_run_X1_takeStep
set_option maxRecDepth 20000 in
theorem ggX3_run_X3_settle : GoodIn wsX3_run wsX3_settle := goodIn_r _ [117, 1, 2, 3, 118, 7, 119, 120, 10, 11, 12, 13, 14, 15, 16, 17, 18, 19, 20, 21, 22, 23, 24, 25, 26, 27, 28, 29, 30, 31, 32, 33, 34, 35, 36, 37, 38, 39, 40, 41, 42, 43, 44, 45, 121, 122, 123, 124, 125, 126, 127, 128, 129, 130, 131, 132, 133, 134, 135, 136, 137, 138, 139, 140, 141, 142, 143, 144, 145] (by decide +kernel) (by decide +kernel)
set_option maxRecDepth 20000 in
theorem gX3_run_X3_settle : GoodIn wsX3_run (wsV RX3 39 RX3 yX3_settle wsX3_settle) := goodIn_app (goodIn_of _ (by decide +kernel)) ggX3_run_X3_settle
theorem dX3_run_0 : decode cX3_run 0 = .ok (.iload_n 1, 1) := by decide +kernel
theorem dX3_run_1 : decode cX3_run 1 = .ok (.iconst 1, 1) := by decide +kernel
theorem dX3_run_2 : decode cX3_run 2 = .ok (.if_icmp .lt 9, 3) := by decide +kernel
theorem dX3_run_5 : decode cX3_run 5 = .ok (.iload_n 1, 1) := by decide +kernel
theorem dX3_run_6 : decode cX3_run 6 = .ok (.bipush 40, 2) := by decide +kernel
theorem dX3_run_8 : decode cX3_run 8 = .ok (.if_icmp .le 6, 3) := by decide +kernel
theorem dX3_run_11 : decode cX3_run 11 = .ok (.ldc 30, 2) := by decide +kernel
theorem dX3_run_13 : decode cX3_run 13 = .ok (.ireturn, 1) := by decide +kernel
theorem dX3_run_14 : decode cX3_run 14 = .ok (.aload_n 0, 1) := by decide +kernel
theorem dX3_run_15 : decode cX3_run 15 = .ok (.getfield 19, 3) := by decide +kernel
theorem dX3_run_18 : decode cX3_run 18 = .ok (.aload_n 0, 1) := by decide +kernel
theorem dX3_run_19 : decode cX3_run 19 = .ok (.getfield 10, 3) := by decide +kernel
theorem dX3_run_22 : decode cX3_run 22 = .ok (.invokevirtual 31, 3) := by decide +kernel
theorem dX3_run_25 : decode cX3_run 25 = .ok (.iconst 0, 1) := by decide +kernel
theorem dX3_run_26 : decode cX3_run 26 = .ok (.istore_n 2, 1) := by decide +kernel
theorem dX3_run_27 : decode cX3_run 27 = .ok (.iconst 0, 1) := by decide +kernel
theorem dX3_run_28 : decode cX3_run 28 = .ok (.istore_n 3, 1) := by decide +kernel
theorem dX3_run_29 : decode cX3_run 29 = .ok (.iload_n 3, 1) := by decide +kernel
theorem dX3_run_30 : decode cX3_run 30 = .ok (.iload_n 1, 1) := by decide +kernel
theorem dX3_run_31 : decode cX3_run 31 = .ok (.if_icmp .ge 45, 3) := by decide +kernel
theorem dX3_run_34 : decode cX3_run 34 = .ok (.aload_n 0, 1) := by decide +kernel
theorem dX3_run_35 : decode cX3_run 35 = .ok (.getfield 10, 3) := by decide +kernel
theorem dX3_run_38 : decode cX3_run 38 = .ok (.invokevirtual 51, 3) := by decide +kernel
theorem dX3_run_41 : decode cX3_run 41 = .ok (.istore 4, 2) := by decide +kernel
theorem dX3_run_43 : decode cX3_run 43 = .ok (.iload 4, 2) := by decide +kernel
theorem dX3_run_45 : decode cX3_run 45 = .ok (.ldc 55, 2) := by decide +kernel
theorem dX3_run_47 : decode cX3_run 47 = .ok (.if_icmp .ne 10, 3) := by decide +kernel
theorem dX3_run_50 : decode cX3_run 50 = .ok (.aload_n 0, 1) := by decide +kernel
theorem dX3_run_51 : decode cX3_run 51 = .ok (.ldc 55, 2) := by decide +kernel
theorem dX3_run_53 : decode cX3_run 53 = .ok (.invokevirtual 39, 3) := by decide +kernel
theorem dX3_run_56 : decode cX3_run 56 = .ok (.ireturn, 1) := by decide +kernel
theorem dX3_run_57 : decode cX3_run 57 = .ok (.iload 4, 2) := by decide +kernel
theorem dX3_run_59 : decode cX3_run 59 = .ok (.ldc 56, 2) := by decide +kernel
theorem dX3_run_61 : decode cX3_run 61 = .ok (.if_icmp .ne 6, 3) := by decide +kernel
theorem dX3_run_64 : decode cX3_run 64 = .ok (.goto 12, 3) := by decide +kernel
theorem dX3_run_67 : decode cX3_run 67 = .ok (.iinc 2 1, 3) := by decide +kernel
theorem dX3_run_70 : decode cX3_run 70 = .ok (.iinc 3 1, 3) := by decide +kernel
theorem dX3_run_73 : decode cX3_run 73 = .ok (.goto (-44), 3) := by decide +kernel
theorem dX3_run_76 : decode cX3_run 76 = .ok (.aload_n 0, 1) := by decide +kernel
theorem dX3_run_77 : decode cX3_run 77 = .ok (.iload_n 2, 1) := by decide +kernel
theorem dX3_run_78 : decode cX3_run 78 = .ok (.invokevirtual 39, 3) := by decide +kernel
theorem dX3_run_81 : decode cX3_run 81 = .ok (.ireturn, 1) := by decide +kernel
set_option maxRecDepth 20000 in
theorem ggX3_empty_X0_putAside : GoodIn wsX3_empty wsX0_putAside := goodIn_r _ [6, 7, 8, 9, 10, 4, 11, 12, 13, 14, 15, 16, 17, 18, 19, 20, 21, 22, 23, 24, 25, 26, 27, 28, 29, 30, 31, 32, 33, 34, 35, 36, 37, 38, 39, 40, 41, 42, 74, 75, 61, 62, 63, 64, 65, 66, 67, 68, 69, 70, 71, 72, 73] (by decide +kernel) (by decide +kernel)
set_option maxRecDepth 20000 in
theorem gX3_empty_X0_putAside_n31 : GoodIn wsX3_empty (wsX0_putAside) := ggX3_empty_X0_putAside
set_option maxRecDepth 20000 in
theorem ggX3_empty_X3_settle : GoodIn wsX3_empty wsX3_settle := goodIn_r _ [46, 47, 1, 2, 48, 4, 49, 50, 7, 8, 9, 10, 11, 12, 13, 14, 15, 16, 17, 18, 19, 20, 21, 22, 23, 24, 25, 26, 27, 28, 29, 30, 31, 32, 33, 34, 35, 36, 37, 38, 39, 40, 41, 42, 51, 52, 53, 54, 55, 56, 57, 58, 59, 60, 74, 75, 61, 62, 63, 64, 65, 66, 67, 68, 69, 70, 71, 72, 73] (by decide +kernel) (by decide +kernel)
set_option maxRecDepth 20000 in
theorem gX3_empty_X3_settle : GoodIn wsX3_empty (wsV RX3 39 RX3 yX3_settle wsX3_settle) := goodIn_app (goodIn_of _ (by decide +kernel)) ggX3_empty_X3_settle
theorem dX3_empty_0 : decode cX3_empty 0 = .ok (.aload_n 0, 1) := by decide +kernel
theorem dX3_empty_1 : decode cX3_empty 1 = .ok (.getfield 19, 3) := by decide +kernel
theorem dX3_empty_4 : decode cX3_empty 4 = .ok (.aload_n 0, 1) := by decide +kernel
theorem dX3_empty_5 : decode cX3_empty 5 = .ok (.getfield 10, 3) := by decide +kernel
theorem dX3_empty_8 : decode cX3_empty 8 = .ok (.invokevirtual 31, 3) := by decide +kernel
theorem dX3_empty_11 : decode cX3_empty 11 = .ok (.aload_n 0, 1) := by decide +kernel
theorem dX3_empty_12 : decode cX3_empty 12 = .ok (.getfield 10, 3) := by decide +kernel
theorem dX3_empty_15 : decode cX3_empty 15 = .ok (.getfield 57, 3) := by decide +kernel
theorem dX3_empty_18 : decode cX3_empty 18 = .ok (.istore_n 1, 1) := by decide +kernel
theorem dX3_empty_19 : decode cX3_empty 19 = .ok (.aload_n 0, 1) := by decide +kernel
theorem dX3_empty_20 : decode cX3_empty 20 = .ok (.getfield 10, 3) := by decide +kernel
theorem dX3_empty_23 : decode cX3_empty 23 = .ok (.iconst 0, 1) := by decide +kernel
theorem dX3_empty_24 : decode cX3_empty 24 = .ok (.putfield 57, 3) := by decide +kernel
theorem dX3_empty_27 : decode cX3_empty 27 = .ok (.aload_n 0, 1) := by decide +kernel
theorem dX3_empty_28 : decode cX3_empty 28 = .ok (.getfield 10, 3) := by decide +kernel
theorem dX3_empty_31 : decode cX3_empty 31 = .ok (.iconst 0, 1) := by decide +kernel
theorem dX3_empty_32 : decode cX3_empty 32 = .ok (.putfield 60, 3) := by decide +kernel
theorem dX3_empty_35 : decode cX3_empty 35 = .ok (.aload_n 0, 1) := by decide +kernel
theorem dX3_empty_36 : decode cX3_empty 36 = .ok (.iload_n 1, 1) := by decide +kernel
theorem dX3_empty_37 : decode cX3_empty 37 = .ok (.invokevirtual 39, 3) := by decide +kernel
theorem dX3_empty_40 : decode cX3_empty 40 = .ok (.ireturn, 1) := by decide +kernel
set_option maxRecDepth 20000 in
theorem ggX3_clauseOf_X1_has : GoodIn wsX3_clauseOf wsX1_has := goodIn_r _ [6, 7, 46, 47, 48, 49, 50, 51, 52, 53, 54, 55, 56, 57, 58] (by decide +kernel) (by decide +kernel)
set_option maxRecDepth 20000 in
theorem gX3_clauseOf_X1_has_n63 : GoodIn wsX3_clauseOf (wsX1_has) := ggX3_clauseOf_X1_has
set_option maxRecDepth 20000 in
theorem ggX3_clauseOf_X3_at : GoodIn wsX3_clauseOf wsX3_at := goodIn_r _ [11] (by decide +kernel) (by decide +kernel)
set_option maxRecDepth 20000 in
theorem gX3_clauseOf_X3_at : GoodIn wsX3_clauseOf (va_wsS RX3 71 yX3_at wsX3_at) := goodIn_app (goodIn_of _ (by decide +kernel)) ggX3_clauseOf_X3_at
set_option maxRecDepth 20000 in
theorem ggX3_clauseOf_X1_greatestOf : GoodIn wsX3_clauseOf wsX1_greatestOf := goodIn_r _ [14, 15, 9, 10, 11, 46, 47, 48, 49, 50, 51, 52, 53, 54, 55, 56, 57, 58] (by decide +kernel) (by decide +kernel)
set_option maxRecDepth 20000 in
theorem gX3_clauseOf_X1_greatestOf_n78 : GoodIn wsX3_clauseOf (wsX1_greatestOf) := ggX3_clauseOf_X1_greatestOf
set_option maxRecDepth 20000 in
theorem ggX3_clauseOf_X3_foundOrNot : GoodIn wsX3_clauseOf wsX3_foundOrNot := goodIn_r _ [18, 19] (by decide +kernel) (by decide +kernel)
set_option maxRecDepth 20000 in
theorem gX3_clauseOf_X3_foundOrNot : GoodIn wsX3_clauseOf (va_wsS RX3 81 yX3_foundOrNot wsX3_foundOrNot) := goodIn_app (goodIn_of _ (by decide +kernel)) ggX3_clauseOf_X3_foundOrNot
set_option maxRecDepth 20000 in
theorem ggX3_clauseOf_J6_bitCount_0f7a4 : GoodIn wsX3_clauseOf wsJ6_bitCount_0f7a4 := goodIn_r _ [23, 24, 25, 26] (by decide +kernel) (by decide +kernel)
set_option maxRecDepth 20000 in
theorem gX3_clauseOf_J6_bitCount_0f7a4 : GoodIn wsX3_clauseOf (va_wsS RX3 93 yJ6_bitCount_0f7a4 wsJ6_bitCount_0f7a4) := goodIn_app (goodIn_of _ (by decide +kernel)) ggX3_clauseOf_J6_bitCount_0f7a4
set_option maxRecDepth 20000 in
theorem ggX3_clauseOf_X1_howManyLessThan : GoodIn wsX3_clauseOf wsX1_howManyLessThan := goodIn_r _ [29, 7, 30, 31, 32, 33, 4, 34, 35, 9, 10, 11, 36, 37, 38, 39, 40, 12, 13, 14, 15, 41, 42, 46, 47, 48, 49, 50, 51, 52, 53, 54, 55, 56, 57, 58] (by decide +kernel) (by decide +kernel)
set_option maxRecDepth 20000 in
theorem gX3_clauseOf_X1_howManyLessThan_n98 : GoodIn wsX3_clauseOf (wsX1_howManyLessThan) := ggX3_clauseOf_X1_howManyLessThan
theorem dX3_clauseOf_0 : decode cX3_clauseOf 0 = .ok (.aload_n 0, 1) := by decide +kernel
theorem dX3_clauseOf_1 : decode cX3_clauseOf 1 = .ok (.getfield 10, 3) := by decide +kernel
theorem dX3_clauseOf_4 : decode cX3_clauseOf 4 = .ok (.iload_n 1, 1) := by decide +kernel
theorem dX3_clauseOf_5 : decode cX3_clauseOf 5 = .ok (.invokevirtual 63, 3) := by decide +kernel
theorem dX3_clauseOf_8 : decode cX3_clauseOf 8 = .ok (.ifCond .ne 6, 3) := by decide +kernel
theorem dX3_clauseOf_11 : decode cX3_clauseOf 11 = .ok (.ldc 30, 2) := by decide +kernel
theorem dX3_clauseOf_13 : decode cX3_clauseOf 13 = .ok (.ireturn, 1) := by decide +kernel
theorem dX3_clauseOf_14 : decode cX3_clauseOf 14 = .ok (.iload_n 2, 1) := by decide +kernel
theorem dX3_clauseOf_15 : decode cX3_clauseOf 15 = .ok (.tableswitch 176 0 8 #[49, 61, 73, 95, 110, 125, 140, 155, 164], 49) := by decide +kernel
theorem dX3_clauseOf_64 : decode cX3_clauseOf 64 = .ok (.aload_n 0, 1) := by decide +kernel
theorem dX3_clauseOf_65 : decode cX3_clauseOf 65 = .ok (.getfield 10, 3) := by decide +kernel
theorem dX3_clauseOf_68 : decode cX3_clauseOf 68 = .ok (.getfield 67, 3) := by decide +kernel
theorem dX3_clauseOf_71 : decode cX3_clauseOf 71 = .ok (.iload_n 1, 1) := by decide +kernel
theorem dX3_clauseOf_72 : decode cX3_clauseOf 72 = .ok (.invokestatic 71, 3) := by decide +kernel
theorem dX3_clauseOf_75 : decode cX3_clauseOf 75 = .ok (.ireturn, 1) := by decide +kernel
theorem dX3_clauseOf_76 : decode cX3_clauseOf 76 = .ok (.aload_n 0, 1) := by decide +kernel
theorem dX3_clauseOf_77 : decode cX3_clauseOf 77 = .ok (.getfield 10, 3) := by decide +kernel
theorem dX3_clauseOf_80 : decode cX3_clauseOf 80 = .ok (.getfield 75, 3) := by decide +kernel
theorem dX3_clauseOf_83 : decode cX3_clauseOf 83 = .ok (.iload_n 1, 1) := by decide +kernel
theorem dX3_clauseOf_84 : decode cX3_clauseOf 84 = .ok (.invokestatic 71, 3) := by decide +kernel
theorem dX3_clauseOf_87 : decode cX3_clauseOf 87 = .ok (.ireturn, 1) := by decide +kernel
theorem dX3_clauseOf_88 : decode cX3_clauseOf 88 = .ok (.aload_n 0, 1) := by decide +kernel
theorem dX3_clauseOf_89 : decode cX3_clauseOf 89 = .ok (.getfield 10, 3) := by decide +kernel
theorem dX3_clauseOf_92 : decode cX3_clauseOf 92 = .ok (.aload_n 0, 1) := by decide +kernel
theorem dX3_clauseOf_93 : decode cX3_clauseOf 93 = .ok (.getfield 10, 3) := by decide +kernel
theorem dX3_clauseOf_96 : decode cX3_clauseOf 96 = .ok (.getfield 67, 3) := by decide +kernel
theorem dX3_clauseOf_99 : decode cX3_clauseOf 99 = .ok (.iload_n 1, 1) := by decide +kernel
theorem dX3_clauseOf_100 : decode cX3_clauseOf 100 = .ok (.invokestatic 71, 3) := by decide +kernel
theorem dX3_clauseOf_103 : decode cX3_clauseOf 103 = .ok (.invokevirtual 78, 3) := by decide +kernel
theorem dX3_clauseOf_106 : decode cX3_clauseOf 106 = .ok (.invokestatic 81, 3) := by decide +kernel
theorem dX3_clauseOf_109 : decode cX3_clauseOf 109 = .ok (.ireturn, 1) := by decide +kernel
theorem dX3_clauseOf_110 : decode cX3_clauseOf 110 = .ok (.aload_n 0, 1) := by decide +kernel
theorem dX3_clauseOf_111 : decode cX3_clauseOf 111 = .ok (.getfield 10, 3) := by decide +kernel
theorem dX3_clauseOf_114 : decode cX3_clauseOf 114 = .ok (.getfield 84, 3) := by decide +kernel
theorem dX3_clauseOf_117 : decode cX3_clauseOf 117 = .ok (.iload_n 1, 1) := by decide +kernel
theorem dX3_clauseOf_118 : decode cX3_clauseOf 118 = .ok (.invokestatic 71, 3) := by decide +kernel
theorem dX3_clauseOf_121 : decode cX3_clauseOf 121 = .ok (.invokestatic 81, 3) := by decide +kernel
theorem dX3_clauseOf_124 : decode cX3_clauseOf 124 = .ok (.ireturn, 1) := by decide +kernel
theorem dX3_clauseOf_125 : decode cX3_clauseOf 125 = .ok (.aload_n 0, 1) := by decide +kernel
theorem dX3_clauseOf_126 : decode cX3_clauseOf 126 = .ok (.getfield 10, 3) := by decide +kernel
theorem dX3_clauseOf_129 : decode cX3_clauseOf 129 = .ok (.getfield 87, 3) := by decide +kernel
theorem dX3_clauseOf_132 : decode cX3_clauseOf 132 = .ok (.iload_n 1, 1) := by decide +kernel
theorem dX3_clauseOf_133 : decode cX3_clauseOf 133 = .ok (.invokestatic 71, 3) := by decide +kernel
theorem dX3_clauseOf_136 : decode cX3_clauseOf 136 = .ok (.invokestatic 81, 3) := by decide +kernel
theorem dX3_clauseOf_139 : decode cX3_clauseOf 139 = .ok (.ireturn, 1) := by decide +kernel
theorem dX3_clauseOf_140 : decode cX3_clauseOf 140 = .ok (.aload_n 0, 1) := by decide +kernel
theorem dX3_clauseOf_141 : decode cX3_clauseOf 141 = .ok (.getfield 10, 3) := by decide +kernel
theorem dX3_clauseOf_144 : decode cX3_clauseOf 144 = .ok (.getfield 90, 3) := by decide +kernel
theorem dX3_clauseOf_147 : decode cX3_clauseOf 147 = .ok (.iload_n 1, 1) := by decide +kernel
theorem dX3_clauseOf_148 : decode cX3_clauseOf 148 = .ok (.invokestatic 71, 3) := by decide +kernel
theorem dX3_clauseOf_151 : decode cX3_clauseOf 151 = .ok (.invokestatic 81, 3) := by decide +kernel
theorem dX3_clauseOf_154 : decode cX3_clauseOf 154 = .ok (.ireturn, 1) := by decide +kernel
theorem dX3_clauseOf_155 : decode cX3_clauseOf 155 = .ok (.aload_n 0, 1) := by decide +kernel
theorem dX3_clauseOf_156 : decode cX3_clauseOf 156 = .ok (.getfield 10, 3) := by decide +kernel
theorem dX3_clauseOf_159 : decode cX3_clauseOf 159 = .ok (.getfield 67, 3) := by decide +kernel
theorem dX3_clauseOf_162 : decode cX3_clauseOf 162 = .ok (.iload_n 1, 1) := by decide +kernel
theorem dX3_clauseOf_163 : decode cX3_clauseOf 163 = .ok (.invokestatic 71, 3) := by decide +kernel
theorem dX3_clauseOf_166 : decode cX3_clauseOf 166 = .ok (.invokestatic 93, 3) := by decide +kernel
theorem dX3_clauseOf_169 : decode cX3_clauseOf 169 = .ok (.ireturn, 1) := by decide +kernel
theorem dX3_clauseOf_170 : decode cX3_clauseOf 170 = .ok (.aload_n 0, 1) := by decide +kernel
theorem dX3_clauseOf_171 : decode cX3_clauseOf 171 = .ok (.getfield 10, 3) := by decide +kernel
theorem dX3_clauseOf_174 : decode cX3_clauseOf 174 = .ok (.iload_n 1, 1) := by decide +kernel
theorem dX3_clauseOf_175 : decode cX3_clauseOf 175 = .ok (.invokevirtual 98, 3) := by decide +kernel
theorem dX3_clauseOf_178 : decode cX3_clauseOf 178 = .ok (.ireturn, 1) := by decide +kernel
theorem dX3_clauseOf_179 : decode cX3_clauseOf 179 = .ok (.aload_n 0, 1) := by decide +kernel
theorem dX3_clauseOf_180 : decode cX3_clauseOf 180 = .ok (.getfield 10, 3) := by decide +kernel
theorem dX3_clauseOf_183 : decode cX3_clauseOf 183 = .ok (.getfield 101, 3) := by decide +kernel
theorem dX3_clauseOf_186 : decode cX3_clauseOf 186 = .ok (.iload_n 1, 1) := by decide +kernel
theorem dX3_clauseOf_187 : decode cX3_clauseOf 187 = .ok (.invokestatic 71, 3) := by decide +kernel
theorem dX3_clauseOf_190 : decode cX3_clauseOf 190 = .ok (.ireturn, 1) := by decide +kernel
theorem dX3_clauseOf_191 : decode cX3_clauseOf 191 = .ok (.ldc 30, 2) := by decide +kernel
theorem dX3_clauseOf_193 : decode cX3_clauseOf 193 = .ok (.ireturn, 1) := by decide +kernel
set_option maxRecDepth 20000 in
theorem ggX3_tree_X1_has : GoodIn wsX3_tree wsX1_has := goodIn_r _ [6, 7, 23, 24, 25, 26, 27, 28, 29, 30, 31, 32, 33, 34, 35] (by decide +kernel) (by decide +kernel)
set_option maxRecDepth 20000 in
theorem gX3_tree_X1_has_n63 : GoodIn wsX3_tree (wsX1_has) := ggX3_tree_X1_has
set_option maxRecDepth 20000 in
theorem ggX3_tree_X1_treeOf : GoodIn wsX3_tree wsX1_treeOf := goodIn_r _ [10, 11, 12, 13, 14, 15, 16, 17, 18, 19, 23, 24, 25, 26, 27, 28, 29, 30, 31, 32, 33, 34, 35] (by decide +kernel) (by decide +kernel)
set_option maxRecDepth 20000 in
theorem gX3_tree_X1_treeOf_n104 : GoodIn wsX3_tree (wsX1_treeOf) := ggX3_tree_X1_treeOf
theorem dX3_tree_0 : decode cX3_tree 0 = .ok (.aload_n 0, 1) := by decide +kernel
theorem dX3_tree_1 : decode cX3_tree 1 = .ok (.getfield 10, 3) := by decide +kernel
theorem dX3_tree_4 : decode cX3_tree 4 = .ok (.iload_n 1, 1) := by decide +kernel
theorem dX3_tree_5 : decode cX3_tree 5 = .ok (.invokevirtual 63, 3) := by decide +kernel
theorem dX3_tree_8 : decode cX3_tree 8 = .ok (.ifCond .eq 14, 3) := by decide +kernel
theorem dX3_tree_11 : decode cX3_tree 11 = .ok (.aload_n 0, 1) := by decide +kernel
theorem dX3_tree_12 : decode cX3_tree 12 = .ok (.getfield 10, 3) := by decide +kernel
theorem dX3_tree_15 : decode cX3_tree 15 = .ok (.iload_n 1, 1) := by decide +kernel
theorem dX3_tree_16 : decode cX3_tree 16 = .ok (.invokevirtual 104, 3) := by decide +kernel
theorem dX3_tree_19 : decode cX3_tree 19 = .ok (.goto 6, 3) := by decide +kernel
theorem dX3_tree_22 : decode cX3_tree 22 = .ok (.ldc2_w 108, 3) := by decide +kernel
theorem dX3_tree_25 : decode cX3_tree 25 = .ok (.lreturn, 1) := by decide +kernel
set_option maxRecDepth 20000 in
theorem ggX3_widest_X1_has : GoodIn wsX3_widest wsX1_has := goodIn_r _ [6, 7, 38, 39, 40, 41, 42, 43, 44, 45, 46, 47, 48, 49, 50] (by decide +kernel) (by decide +kernel)
set_option maxRecDepth 20000 in
theorem gX3_widest_X1_has_n63 : GoodIn wsX3_widest (wsX1_has) := ggX3_widest_X1_has
set_option maxRecDepth 20000 in
theorem ggX3_widest_X1_treeOf : GoodIn wsX3_widest wsX1_treeOf := goodIn_r _ [10, 11, 12, 13, 14, 15, 16, 17, 18, 19, 38, 39, 40, 41, 42, 43, 44, 45, 46, 47, 48, 49, 50] (by decide +kernel) (by decide +kernel)
set_option maxRecDepth 20000 in
theorem gX3_widest_X1_treeOf_n104 : GoodIn wsX3_widest (wsX1_treeOf) := ggX3_widest_X1_treeOf
set_option maxRecDepth 20000 in
theorem ggX3_widest_X1_mostLiterals : GoodIn wsX3_widest wsX1_mostLiterals := goodIn_r _ [22, 7, 23, 24, 25, 26, 27, 16, 14, 17, 18, 19, 28, 29, 30, 31, 32, 33, 34, 38, 39, 40, 41, 42, 43, 44, 45, 46, 47, 48, 49, 50] (by decide +kernel) (by decide +kernel)
set_option maxRecDepth 20000 in
theorem gX3_widest_X1_mostLiterals_n110 : GoodIn wsX3_widest (wsX1_mostLiterals) := ggX3_widest_X1_mostLiterals
theorem dX3_widest_0 : decode cX3_widest 0 = .ok (.aload_n 0, 1) := by decide +kernel
theorem dX3_widest_1 : decode cX3_widest 1 = .ok (.getfield 10, 3) := by decide +kernel
theorem dX3_widest_4 : decode cX3_widest 4 = .ok (.iload_n 1, 1) := by decide +kernel
theorem dX3_widest_5 : decode cX3_widest 5 = .ok (.invokevirtual 63, 3) := by decide +kernel
theorem dX3_widest_8 : decode cX3_widest 8 = .ok (.ifCond .eq 21, 3) := by decide +kernel
theorem dX3_widest_11 : decode cX3_widest 11 = .ok (.aload_n 0, 1) := by decide +kernel
theorem dX3_widest_12 : decode cX3_widest 12 = .ok (.getfield 10, 3) := by decide +kernel
theorem dX3_widest_15 : decode cX3_widest 15 = .ok (.aload_n 0, 1) := by decide +kernel
theorem dX3_widest_16 : decode cX3_widest 16 = .ok (.getfield 10, 3) := by decide +kernel
theorem dX3_widest_19 : decode cX3_widest 19 = .ok (.iload_n 1, 1) := by decide +kernel
theorem dX3_widest_20 : decode cX3_widest 20 = .ok (.invokevirtual 104, 3) := by decide +kernel
theorem dX3_widest_23 : decode cX3_widest 23 = .ok (.invokevirtual 110, 3) := by decide +kernel
theorem dX3_widest_26 : decode cX3_widest 26 = .ok (.goto 5, 3) := by decide +kernel
theorem dX3_widest_29 : decode cX3_widest 29 = .ok (.ldc 30, 2) := by decide +kernel
theorem dX3_widest_31 : decode cX3_widest 31 = .ok (.ireturn, 1) := by decide +kernel
set_option maxRecDepth 20000 in
theorem ggX3_refutation_X1_emptyClause : GoodIn wsX3_refutation wsX1_emptyClause := goodIn_r _ [5, 6, 7, 8, 9, 10, 18, 19, 20, 21, 22, 23, 24, 25, 26, 27, 28, 29, 30] (by decide +kernel) (by decide +kernel)
set_option maxRecDepth 20000 in
theorem gX3_refutation_X1_emptyClause_n114 : GoodIn wsX3_refutation (wsX1_emptyClause) := ggX3_refutation_X1_emptyClause
set_option maxRecDepth 20000 in
theorem ggX3_refutation_X3_foundOrNot : GoodIn wsX3_refutation wsX3_foundOrNot := goodIn_r _ [13, 14] (by decide +kernel) (by decide +kernel)
set_option maxRecDepth 20000 in
theorem gX3_refutation_X3_foundOrNot : GoodIn wsX3_refutation (va_wsS RX3 81 yX3_foundOrNot wsX3_foundOrNot) := goodIn_app (goodIn_of _ (by decide +kernel)) ggX3_refutation_X3_foundOrNot
theorem dX3_refutation_0 : decode cX3_refutation 0 = .ok (.aload_n 0, 1) := by decide +kernel
theorem dX3_refutation_1 : decode cX3_refutation 1 = .ok (.getfield 10, 3) := by decide +kernel
theorem dX3_refutation_4 : decode cX3_refutation 4 = .ok (.invokevirtual 114, 3) := by decide +kernel
theorem dX3_refutation_7 : decode cX3_refutation 7 = .ok (.invokestatic 81, 3) := by decide +kernel
theorem dX3_refutation_10 : decode cX3_refutation 10 = .ok (.ireturn, 1) := by decide +kernel
set_option maxRecDepth 20000 in
theorem ggX3_models_X1_toldClauses : GoodIn wsX3_models wsX1_toldClauses := goodIn_r _ [5, 6, 7, 8, 9, 3, 10, 11, 12, 13, 14, 15, 16, 36, 37, 38, 39, 40, 41, 42, 43, 44, 45, 46, 47, 48] (by decide +kernel) (by decide +kernel)
set_option maxRecDepth 20000 in
theorem gX3_models_X1_toldClauses_n117 : GoodIn wsX3_models (wsX1_toldClauses) := ggX3_models_X1_toldClauses
set_option maxRecDepth 20000 in
theorem ggX3_models_X1_valuesFulfilling : GoodIn wsX3_models wsX1_valuesFulfilling := goodIn_r _ [19, 20, 6, 21, 22, 13, 23, 24, 25, 36, 37, 38, 39, 40, 41, 42, 43, 44, 45, 46, 47, 48] (by decide +kernel) (by decide +kernel)
set_option maxRecDepth 20000 in
theorem gX3_models_X1_valuesFulfilling_n121 : GoodIn wsX3_models (wsX1_valuesFulfilling) := ggX3_models_X1_valuesFulfilling
set_option maxRecDepth 20000 in
theorem ggX3_models_J13_bitCount_95d88 : GoodIn wsX3_models wsJ13_bitCount_95d88 := goodIn_r _ [29, 30, 31, 32] (by decide +kernel) (by decide +kernel)
set_option maxRecDepth 20000 in
theorem gX3_models_J13_bitCount_95d88 : GoodIn wsX3_models (va_wsS RX3 125 yJ13_bitCount_95d88 wsJ13_bitCount_95d88) := goodIn_app (goodIn_of _ (by decide +kernel)) ggX3_models_J13_bitCount_95d88
theorem dX3_models_0 : decode cX3_models 0 = .ok (.aload_n 0, 1) := by decide +kernel
theorem dX3_models_1 : decode cX3_models 1 = .ok (.getfield 10, 3) := by decide +kernel
theorem dX3_models_4 : decode cX3_models 4 = .ok (.aload_n 0, 1) := by decide +kernel
theorem dX3_models_5 : decode cX3_models 5 = .ok (.getfield 10, 3) := by decide +kernel
theorem dX3_models_8 : decode cX3_models 8 = .ok (.invokevirtual 117, 3) := by decide +kernel
theorem dX3_models_11 : decode cX3_models 11 = .ok (.invokevirtual 121, 3) := by decide +kernel
theorem dX3_models_14 : decode cX3_models 14 = .ok (.invokestatic 125, 3) := by decide +kernel
theorem dX3_models_17 : decode cX3_models 17 = .ok (.ireturn, 1) := by decide +kernel
set_option maxRecDepth 20000 in
theorem ggX3_model_X1_toldClauses : GoodIn wsX3_model wsX1_toldClauses := goodIn_r _ [7, 8, 9, 10, 11, 5, 12, 13, 14, 15, 16, 17, 18, 32, 33, 34, 35, 36, 37, 38, 39, 40, 41, 42, 43, 44] (by decide +kernel) (by decide +kernel)
set_option maxRecDepth 20000 in
theorem gX3_model_X1_toldClauses_n117 : GoodIn wsX3_model (wsX1_toldClauses) := ggX3_model_X1_toldClauses
set_option maxRecDepth 20000 in
theorem ggX3_model_X1_valuesFulfilling : GoodIn wsX3_model wsX1_valuesFulfilling := goodIn_r _ [21, 22, 8, 23, 24, 15, 25, 26, 27, 32, 33, 34, 35, 36, 37, 38, 39, 40, 41, 42, 43, 44] (by decide +kernel) (by decide +kernel)
set_option maxRecDepth 20000 in
theorem gX3_model_X1_valuesFulfilling_n121 : GoodIn wsX3_model (wsX1_valuesFulfilling) := ggX3_model_X1_valuesFulfilling
set_option maxRecDepth 20000 in
theorem ggX3_model_X3_isIn : GoodIn wsX3_model wsX3_isIn := goodIn_r _ [25] (by decide +kernel) (by decide +kernel)
set_option maxRecDepth 20000 in
theorem gX3_model_X3_isIn : GoodIn wsX3_model (va_wsS RX3 129 yX3_isIn wsX3_isIn) := goodIn_app (goodIn_of _ (by decide +kernel)) ggX3_model_X3_isIn
theorem dX3_model_0 : decode cX3_model 0 = .ok (.iload_n 1, 1) := by decide +kernel
theorem dX3_model_1 : decode cX3_model 1 = .ok (.ifCond .ge 6, 3) := by decide +kernel
theorem dX3_model_4 : decode cX3_model 4 = .ok (.ldc 30, 2) := by decide +kernel
theorem dX3_model_6 : decode cX3_model 6 = .ok (.ireturn, 1) := by decide +kernel
theorem dX3_model_7 : decode cX3_model 7 = .ok (.aload_n 0, 1) := by decide +kernel
theorem dX3_model_8 : decode cX3_model 8 = .ok (.getfield 10, 3) := by decide +kernel
theorem dX3_model_11 : decode cX3_model 11 = .ok (.aload_n 0, 1) := by decide +kernel
theorem dX3_model_12 : decode cX3_model 12 = .ok (.getfield 10, 3) := by decide +kernel
theorem dX3_model_15 : decode cX3_model 15 = .ok (.invokevirtual 117, 3) := by decide +kernel
theorem dX3_model_18 : decode cX3_model 18 = .ok (.invokevirtual 121, 3) := by decide +kernel
theorem dX3_model_21 : decode cX3_model 21 = .ok (.lstore_n 2, 1) := by decide +kernel
theorem dX3_model_22 : decode cX3_model 22 = .ok (.iconst 0, 1) := by decide +kernel
theorem dX3_model_23 : decode cX3_model 23 = .ok (.istore 4, 2) := by decide +kernel
theorem dX3_model_25 : decode cX3_model 25 = .ok (.iconst 0, 1) := by decide +kernel
theorem dX3_model_26 : decode cX3_model 26 = .ok (.istore 5, 2) := by decide +kernel
theorem dX3_model_28 : decode cX3_model 28 = .ok (.iload 5, 2) := by decide +kernel
theorem dX3_model_30 : decode cX3_model 30 = .ok (.bipush 64, 2) := by decide +kernel
theorem dX3_model_32 : decode cX3_model 32 = .ok (.if_icmp .ge 30, 3) := by decide +kernel
theorem dX3_model_35 : decode cX3_model 35 = .ok (.lload_n 2, 1) := by decide +kernel
theorem dX3_model_36 : decode cX3_model 36 = .ok (.iload 5, 2) := by decide +kernel
theorem dX3_model_38 : decode cX3_model 38 = .ok (.invokestatic 129, 3) := by decide +kernel
theorem dX3_model_41 : decode cX3_model 41 = .ok (.ifCond .eq 15, 3) := by decide +kernel
theorem dX3_model_44 : decode cX3_model 44 = .ok (.iload 4, 2) := by decide +kernel
theorem dX3_model_46 : decode cX3_model 46 = .ok (.iload_n 1, 1) := by decide +kernel
theorem dX3_model_47 : decode cX3_model 47 = .ok (.if_icmp .ne 6, 3) := by decide +kernel
theorem dX3_model_50 : decode cX3_model 50 = .ok (.iload 5, 2) := by decide +kernel
theorem dX3_model_52 : decode cX3_model 52 = .ok (.ireturn, 1) := by decide +kernel
theorem dX3_model_53 : decode cX3_model 53 = .ok (.iinc 4 1, 3) := by decide +kernel
theorem dX3_model_56 : decode cX3_model 56 = .ok (.iinc 5 1, 3) := by decide +kernel
theorem dX3_model_59 : decode cX3_model 59 = .ok (.goto (-31), 3) := by decide +kernel
theorem dX3_model_62 : decode cX3_model 62 = .ok (.ldc 133, 2) := by decide +kernel
theorem dX3_model_64 : decode cX3_model 64 = .ok (.ireturn, 1) := by decide +kernel
set_option maxRecDepth 20000 in
theorem ggX3_broken_X1_clausesBrokenBy : GoodIn wsX3_broken wsX1_clausesBrokenBy := goodIn_r _ [6, 7, 8, 9, 10, 11, 4, 12, 13, 14, 15, 16, 17, 18, 19, 20, 21, 22, 26, 27, 28, 29, 30, 31, 32, 33, 34, 35, 36, 37, 38] (by decide +kernel) (by decide +kernel)
set_option maxRecDepth 20000 in
theorem gX3_broken_X1_clausesBrokenBy_n134 : GoodIn wsX3_broken (wsX1_clausesBrokenBy) := ggX3_broken_X1_clausesBrokenBy
theorem dX3_broken_0 : decode cX3_broken 0 = .ok (.iload_n 1, 1) := by decide +kernel
theorem dX3_broken_1 : decode cX3_broken 1 = .ok (.ifCond .lt 9, 3) := by decide +kernel
theorem dX3_broken_4 : decode cX3_broken 4 = .ok (.iload_n 1, 1) := by decide +kernel
theorem dX3_broken_5 : decode cX3_broken 5 = .ok (.bipush 64, 2) := by decide +kernel
theorem dX3_broken_7 : decode cX3_broken 7 = .ok (.if_icmp .lt 7, 3) := by decide +kernel
theorem dX3_broken_10 : decode cX3_broken 10 = .ok (.ldc2_w 108, 3) := by decide +kernel
theorem dX3_broken_13 : decode cX3_broken 13 = .ok (.lreturn, 1) := by decide +kernel
theorem dX3_broken_14 : decode cX3_broken 14 = .ok (.aload_n 0, 1) := by decide +kernel
theorem dX3_broken_15 : decode cX3_broken 15 = .ok (.getfield 10, 3) := by decide +kernel
theorem dX3_broken_18 : decode cX3_broken 18 = .ok (.iload_n 1, 1) := by decide +kernel
theorem dX3_broken_19 : decode cX3_broken 19 = .ok (.invokevirtual 134, 3) := by decide +kernel
theorem dX3_broken_22 : decode cX3_broken 22 = .ok (.lreturn, 1) := by decide +kernel
set_option maxRecDepth 20000 in
theorem ggX3_core_X1_toldClauses : GoodIn wsX3_core wsX1_toldClauses := goodIn_r _ [6, 7, 8, 9, 10, 4, 11, 12, 13, 14, 15, 16, 17, 34, 35, 36, 37, 38, 39, 40, 41, 42, 43, 44, 45, 46] (by decide +kernel) (by decide +kernel)
set_option maxRecDepth 20000 in
theorem gX3_core_X1_toldClauses_n117 : GoodIn wsX3_core (wsX1_toldClauses) := ggX3_core_X1_toldClauses
set_option maxRecDepth 20000 in
theorem ggX3_core_X1_valuesFulfilling : GoodIn wsX3_core wsX1_valuesFulfilling := goodIn_r _ [20, 21, 7, 22, 23, 14, 24, 25, 26, 34, 35, 36, 37, 38, 39, 40, 41, 42, 43, 44, 45, 46] (by decide +kernel) (by decide +kernel)
set_option maxRecDepth 20000 in
theorem gX3_core_X1_valuesFulfilling_n121 : GoodIn wsX3_core (wsX1_valuesFulfilling) := ggX3_core_X1_valuesFulfilling
set_option maxRecDepth 20000 in
theorem ggX3_core_X1_fewestUnfulfillable : GoodIn wsX3_core wsX1_fewestUnfulfillable := goodIn_r _ [29, 7, 21, 16, 14, 17, 30, 18, 19, 4, 20, 22, 23, 24, 25, 26, 34, 35, 36, 37, 38, 39, 40, 41, 42, 43, 44, 45, 46] (by decide +kernel) (by decide +kernel)
set_option maxRecDepth 20000 in
theorem gX3_core_X1_fewestUnfulfillable_n137 : GoodIn wsX3_core (wsX1_fewestUnfulfillable) := ggX3_core_X1_fewestUnfulfillable
theorem dX3_core_0 : decode cX3_core 0 = .ok (.aload_n 0, 1) := by decide +kernel
theorem dX3_core_1 : decode cX3_core 1 = .ok (.getfield 10, 3) := by decide +kernel
theorem dX3_core_4 : decode cX3_core 4 = .ok (.invokevirtual 117, 3) := by decide +kernel
theorem dX3_core_7 : decode cX3_core 7 = .ok (.lstore_n 1, 1) := by decide +kernel
theorem dX3_core_8 : decode cX3_core 8 = .ok (.aload_n 0, 1) := by decide +kernel
theorem dX3_core_9 : decode cX3_core 9 = .ok (.getfield 10, 3) := by decide +kernel
theorem dX3_core_12 : decode cX3_core 12 = .ok (.lload_n 1, 1) := by decide +kernel
theorem dX3_core_13 : decode cX3_core 13 = .ok (.invokevirtual 121, 3) := by decide +kernel
theorem dX3_core_16 : decode cX3_core 16 = .ok (.lconst 0, 1) := by decide +kernel
theorem dX3_core_17 : decode cX3_core 17 = .ok (.lcmp, 1) := by decide +kernel
theorem dX3_core_18 : decode cX3_core 18 = .ok (.ifCond .ne 14, 3) := by decide +kernel
theorem dX3_core_21 : decode cX3_core 21 = .ok (.aload_n 0, 1) := by decide +kernel
theorem dX3_core_22 : decode cX3_core 22 = .ok (.getfield 10, 3) := by decide +kernel
theorem dX3_core_25 : decode cX3_core 25 = .ok (.lload_n 1, 1) := by decide +kernel
theorem dX3_core_26 : decode cX3_core 26 = .ok (.invokevirtual 137, 3) := by decide +kernel
theorem dX3_core_29 : decode cX3_core 29 = .ok (.goto 6, 3) := by decide +kernel
theorem dX3_core_32 : decode cX3_core 32 = .ok (.ldc2_w 140, 3) := by decide +kernel
theorem dX3_core_35 : decode cX3_core 35 = .ok (.lreturn, 1) := by decide +kernel
set_option maxRecDepth 20000 in
theorem ggX3_follows_X1_toldClauses : GoodIn wsX3_follows wsX1_toldClauses := goodIn_r _ [7, 8, 9, 10, 11, 5, 12, 13, 14, 15, 16, 17, 18, 36, 37, 38, 39, 40, 41, 42, 43, 44, 45, 46, 47, 48] (by decide +kernel) (by decide +kernel)
set_option maxRecDepth 20000 in
theorem gX3_follows_X1_toldClauses_n117 : GoodIn wsX3_follows (wsX1_toldClauses) := ggX3_follows_X1_toldClauses
set_option maxRecDepth 20000 in
theorem ggX3_follows_X1_valuesFulfilling : GoodIn wsX3_follows wsX1_valuesFulfilling := goodIn_r _ [21, 22, 8, 23, 24, 15, 25, 26, 27, 36, 37, 38, 39, 40, 41, 42, 43, 44, 45, 46, 47, 48] (by decide +kernel) (by decide +kernel)
set_option maxRecDepth 20000 in
theorem gX3_follows_X1_valuesFulfilling_n121 : GoodIn wsX3_follows (wsX1_valuesFulfilling) := ggX3_follows_X1_valuesFulfilling
set_option maxRecDepth 20000 in
theorem ggX3_follows_X3_valuesOfClause : GoodIn wsX3_follows wsX3_valuesOfClause := goodIn_r _ [30, 31, 3, 32, 26, 15, 27] (by decide +kernel) (by decide +kernel)
set_option maxRecDepth 20000 in
theorem gX3_follows_X3_valuesOfClause : GoodIn wsX3_follows (va_wsS RX3 142 yX3_valuesOfClause wsX3_valuesOfClause) := goodIn_app (goodIn_of _ (by decide +kernel)) ggX3_follows_X3_valuesOfClause
theorem dX3_follows_0 : decode cX3_follows 0 = .ok (.iload_n 1, 1) := by decide +kernel
theorem dX3_follows_1 : decode cX3_follows 1 = .ok (.ifCond .lt 10, 3) := by decide +kernel
theorem dX3_follows_4 : decode cX3_follows 4 = .ok (.iload_n 1, 1) := by decide +kernel
theorem dX3_follows_5 : decode cX3_follows 5 = .ok (.sipush 4095, 3) := by decide +kernel
theorem dX3_follows_8 : decode cX3_follows 8 = .ok (.if_icmp .le 6, 3) := by decide +kernel
theorem dX3_follows_11 : decode cX3_follows 11 = .ok (.ldc 30, 2) := by decide +kernel
theorem dX3_follows_13 : decode cX3_follows 13 = .ok (.ireturn, 1) := by decide +kernel
theorem dX3_follows_14 : decode cX3_follows 14 = .ok (.aload_n 0, 1) := by decide +kernel
theorem dX3_follows_15 : decode cX3_follows 15 = .ok (.getfield 10, 3) := by decide +kernel
theorem dX3_follows_18 : decode cX3_follows 18 = .ok (.aload_n 0, 1) := by decide +kernel
theorem dX3_follows_19 : decode cX3_follows 19 = .ok (.getfield 10, 3) := by decide +kernel
theorem dX3_follows_22 : decode cX3_follows 22 = .ok (.invokevirtual 117, 3) := by decide +kernel
theorem dX3_follows_25 : decode cX3_follows 25 = .ok (.invokevirtual 121, 3) := by decide +kernel
theorem dX3_follows_28 : decode cX3_follows 28 = .ok (.lstore_n 2, 1) := by decide +kernel
theorem dX3_follows_29 : decode cX3_follows 29 = .ok (.lload_n 2, 1) := by decide +kernel
theorem dX3_follows_30 : decode cX3_follows 30 = .ok (.iload_n 1, 1) := by decide +kernel
theorem dX3_follows_31 : decode cX3_follows 31 = .ok (.invokestatic 142, 3) := by decide +kernel
theorem dX3_follows_34 : decode cX3_follows 34 = .ok (.ldc2_w 145, 3) := by decide +kernel
theorem dX3_follows_37 : decode cX3_follows 37 = .ok (.lxor, 1) := by decide +kernel
theorem dX3_follows_38 : decode cX3_follows 38 = .ok (.land, 1) := by decide +kernel
theorem dX3_follows_39 : decode cX3_follows 39 = .ok (.lconst 0, 1) := by decide +kernel
theorem dX3_follows_40 : decode cX3_follows 40 = .ok (.lcmp, 1) := by decide +kernel
theorem dX3_follows_41 : decode cX3_follows 41 = .ok (.ifCond .ne 7, 3) := by decide +kernel
theorem dX3_follows_44 : decode cX3_follows 44 = .ok (.iconst 1, 1) := by decide +kernel
theorem dX3_follows_45 : decode cX3_follows 45 = .ok (.goto 4, 3) := by decide +kernel
theorem dX3_follows_48 : decode cX3_follows 48 = .ok (.iconst 0, 1) := by decide +kernel
theorem dX3_follows_49 : decode cX3_follows 49 = .ok (.ireturn, 1) := by decide +kernel
set_option maxRecDepth 20000 in
theorem ggX3_share_X3_valuesOfClause : GoodIn wsX3_share wsX3_valuesOfClause := goodIn_r _ [5, 6, 7, 8, 9, 4, 10] (by decide +kernel) (by decide +kernel)
set_option maxRecDepth 20000 in
theorem gX3_share_X3_valuesOfClause : GoodIn wsX3_share (va_wsS RX3 142 yX3_valuesOfClause wsX3_valuesOfClause) := goodIn_app (goodIn_of _ (by decide +kernel)) ggX3_share_X3_valuesOfClause
set_option maxRecDepth 20000 in
theorem ggX3_share_J13_bitCount_95d88 : GoodIn wsX3_share wsJ13_bitCount_95d88 := goodIn_r _ [14, 15, 16, 17] (by decide +kernel) (by decide +kernel)
set_option maxRecDepth 20000 in
theorem gX3_share_J13_bitCount_95d88 : GoodIn wsX3_share (va_wsS RX3 125 yJ13_bitCount_95d88 wsJ13_bitCount_95d88) := goodIn_app (goodIn_of _ (by decide +kernel)) ggX3_share_J13_bitCount_95d88
set_option maxRecDepth 20000 in
theorem ggX3_share_X3_floatBitsOf64ths : GoodIn wsX3_share wsX3_floatBitsOf64ths := goodIn_r _ [20, 21] (by decide +kernel) (by decide +kernel)
set_option maxRecDepth 20000 in
theorem gX3_share_X3_floatBitsOf64ths : GoodIn wsX3_share (va_wsS RX3 147 yX3_floatBitsOf64ths wsX3_floatBitsOf64ths) := goodIn_app (goodIn_of _ (by decide +kernel)) ggX3_share_X3_floatBitsOf64ths
theorem dX3_share_0 : decode cX3_share 0 = .ok (.iload_n 1, 1) := by decide +kernel
theorem dX3_share_1 : decode cX3_share 1 = .ok (.ifCond .lt 10, 3) := by decide +kernel
theorem dX3_share_4 : decode cX3_share 4 = .ok (.iload_n 1, 1) := by decide +kernel
theorem dX3_share_5 : decode cX3_share 5 = .ok (.sipush 4095, 3) := by decide +kernel
theorem dX3_share_8 : decode cX3_share 8 = .ok (.if_icmp .le 6, 3) := by decide +kernel
theorem dX3_share_11 : decode cX3_share 11 = .ok (.ldc 30, 2) := by decide +kernel
theorem dX3_share_13 : decode cX3_share 13 = .ok (.ireturn, 1) := by decide +kernel
theorem dX3_share_14 : decode cX3_share 14 = .ok (.iload_n 1, 1) := by decide +kernel
theorem dX3_share_15 : decode cX3_share 15 = .ok (.invokestatic 142, 3) := by decide +kernel
theorem dX3_share_18 : decode cX3_share 18 = .ok (.invokestatic 125, 3) := by decide +kernel
theorem dX3_share_21 : decode cX3_share 21 = .ok (.invokestatic 147, 3) := by decide +kernel
theorem dX3_share_24 : decode cX3_share 24 = .ok (.ireturn, 1) := by decide +kernel
set_option maxRecDepth 20000 in
theorem ggX3_count_X1_howMany : GoodIn wsX3_count wsX1_howMany := goodIn_r _ [8, 9, 10, 11, 12, 13, 21, 22, 23, 24, 25, 26, 27, 28, 29, 30, 31, 32, 33] (by decide +kernel) (by decide +kernel)
set_option maxRecDepth 20000 in
theorem gX3_count_X1_howMany_n150 : GoodIn wsX3_count (wsX1_howMany) := ggX3_count_X1_howMany
set_option maxRecDepth 20000 in
theorem ggX3_count_X1_rankOf : GoodIn wsX3_count wsX1_rankOf := goodIn_r _ [16, 17, 11, 12, 13, 21, 22, 23, 24, 25, 26, 27, 28, 29, 30, 31, 32, 33] (by decide +kernel) (by decide +kernel)
set_option maxRecDepth 20000 in
theorem gX3_count_X1_rankOf_n165 : GoodIn wsX3_count (wsX1_rankOf) := ggX3_count_X1_rankOf
theorem dX3_count_0 : decode cX3_count 0 = .ok (.iload_n 1, 1) := by decide +kernel
theorem dX3_count_1 : decode cX3_count 1 = .ok (.tableswitch 138 0 9 #[55, 63, 72, 81, 90, 98, 106, 114, 122, 130], 55) := by decide +kernel
theorem dX3_count_56 : decode cX3_count 56 = .ok (.aload_n 0, 1) := by decide +kernel
theorem dX3_count_57 : decode cX3_count 57 = .ok (.getfield 10, 3) := by decide +kernel
theorem dX3_count_60 : decode cX3_count 60 = .ok (.getfield 57, 3) := by decide +kernel
theorem dX3_count_63 : decode cX3_count 63 = .ok (.ireturn, 1) := by decide +kernel
theorem dX3_count_64 : decode cX3_count 64 = .ok (.aload_n 0, 1) := by decide +kernel
theorem dX3_count_65 : decode cX3_count 65 = .ok (.getfield 10, 3) := by decide +kernel
theorem dX3_count_68 : decode cX3_count 68 = .ok (.iconst 0, 1) := by decide +kernel
theorem dX3_count_69 : decode cX3_count 69 = .ok (.invokevirtual 150, 3) := by decide +kernel
theorem dX3_count_72 : decode cX3_count 72 = .ok (.ireturn, 1) := by decide +kernel
theorem dX3_count_73 : decode cX3_count 73 = .ok (.aload_n 0, 1) := by decide +kernel
theorem dX3_count_74 : decode cX3_count 74 = .ok (.getfield 10, 3) := by decide +kernel
theorem dX3_count_77 : decode cX3_count 77 = .ok (.iconst 1, 1) := by decide +kernel
theorem dX3_count_78 : decode cX3_count 78 = .ok (.invokevirtual 150, 3) := by decide +kernel
theorem dX3_count_81 : decode cX3_count 81 = .ok (.ireturn, 1) := by decide +kernel
theorem dX3_count_82 : decode cX3_count 82 = .ok (.aload_n 0, 1) := by decide +kernel
theorem dX3_count_83 : decode cX3_count 83 = .ok (.getfield 10, 3) := by decide +kernel
theorem dX3_count_86 : decode cX3_count 86 = .ok (.iconst 2, 1) := by decide +kernel
theorem dX3_count_87 : decode cX3_count 87 = .ok (.invokevirtual 150, 3) := by decide +kernel
theorem dX3_count_90 : decode cX3_count 90 = .ok (.ireturn, 1) := by decide +kernel
theorem dX3_count_91 : decode cX3_count 91 = .ok (.aload_n 0, 1) := by decide +kernel
theorem dX3_count_92 : decode cX3_count 92 = .ok (.getfield 10, 3) := by decide +kernel
theorem dX3_count_95 : decode cX3_count 95 = .ok (.getfield 60, 3) := by decide +kernel
theorem dX3_count_98 : decode cX3_count 98 = .ok (.ireturn, 1) := by decide +kernel
theorem dX3_count_99 : decode cX3_count 99 = .ok (.aload_n 0, 1) := by decide +kernel
theorem dX3_count_100 : decode cX3_count 100 = .ok (.getfield 10, 3) := by decide +kernel
theorem dX3_count_103 : decode cX3_count 103 = .ok (.getfield 47, 3) := by decide +kernel
theorem dX3_count_106 : decode cX3_count 106 = .ok (.ireturn, 1) := by decide +kernel
theorem dX3_count_107 : decode cX3_count 107 = .ok (.aload_n 0, 1) := by decide +kernel
theorem dX3_count_108 : decode cX3_count 108 = .ok (.getfield 10, 3) := by decide +kernel
theorem dX3_count_111 : decode cX3_count 111 = .ok (.getfield 153, 3) := by decide +kernel
theorem dX3_count_114 : decode cX3_count 114 = .ok (.ireturn, 1) := by decide +kernel
theorem dX3_count_115 : decode cX3_count 115 = .ok (.aload_n 0, 1) := by decide +kernel
theorem dX3_count_116 : decode cX3_count 116 = .ok (.getfield 10, 3) := by decide +kernel
theorem dX3_count_119 : decode cX3_count 119 = .ok (.getfield 156, 3) := by decide +kernel
theorem dX3_count_122 : decode cX3_count 122 = .ok (.ireturn, 1) := by decide +kernel
theorem dX3_count_123 : decode cX3_count 123 = .ok (.aload_n 0, 1) := by decide +kernel
theorem dX3_count_124 : decode cX3_count 124 = .ok (.getfield 19, 3) := by decide +kernel
theorem dX3_count_127 : decode cX3_count 127 = .ok (.getfield 159, 3) := by decide +kernel
theorem dX3_count_130 : decode cX3_count 130 = .ok (.ireturn, 1) := by decide +kernel
theorem dX3_count_131 : decode cX3_count 131 = .ok (.aload_n 0, 1) := by decide +kernel
theorem dX3_count_132 : decode cX3_count 132 = .ok (.getfield 26, 3) := by decide +kernel
theorem dX3_count_135 : decode cX3_count 135 = .ok (.getfield 162, 3) := by decide +kernel
theorem dX3_count_138 : decode cX3_count 138 = .ok (.ireturn, 1) := by decide +kernel
theorem dX3_count_139 : decode cX3_count 139 = .ok (.iload_n 1, 1) := by decide +kernel
theorem dX3_count_140 : decode cX3_count 140 = .ok (.bipush 10, 2) := by decide +kernel
theorem dX3_count_142 : decode cX3_count 142 = .ok (.if_icmp .lt 23, 3) := by decide +kernel
theorem dX3_count_145 : decode cX3_count 145 = .ok (.iload_n 1, 1) := by decide +kernel
theorem dX3_count_146 : decode cX3_count 146 = .ok (.bipush 16, 2) := by decide +kernel
theorem dX3_count_148 : decode cX3_count 148 = .ok (.if_icmp .ge 17, 3) := by decide +kernel
theorem dX3_count_151 : decode cX3_count 151 = .ok (.aload_n 0, 1) := by decide +kernel
theorem dX3_count_152 : decode cX3_count 152 = .ok (.getfield 10, 3) := by decide +kernel
theorem dX3_count_155 : decode cX3_count 155 = .ok (.iload_n 1, 1) := by decide +kernel
theorem dX3_count_156 : decode cX3_count 156 = .ok (.bipush 10, 2) := by decide +kernel
theorem dX3_count_158 : decode cX3_count 158 = .ok (.isub, 1) := by decide +kernel
theorem dX3_count_159 : decode cX3_count 159 = .ok (.invokevirtual 165, 3) := by decide +kernel
theorem dX3_count_162 : decode cX3_count 162 = .ok (.goto 5, 3) := by decide +kernel
theorem dX3_count_165 : decode cX3_count 165 = .ok (.ldc 30, 2) := by decide +kernel
theorem dX3_count_167 : decode cX3_count 167 = .ok (.ireturn, 1) := by decide +kernel
set_option maxRecDepth 20000 in
theorem ggX3_undo_X0_restoreLatest : GoodIn wsX3_undo wsX0_restoreLatest := goodIn_r _ [7, 8, 9, 10, 11, 5, 12, 13, 14, 15, 16, 17, 18, 19, 20, 21, 22, 23, 24, 25, 26, 27, 28, 29, 30, 31, 32, 33, 34, 35, 36, 37, 38, 39, 40, 41, 42, 43, 47, 48, 49, 50, 51, 52, 53, 54, 55, 56, 57, 58, 59, 60, 61] (by decide +kernel) (by decide +kernel)
set_option maxRecDepth 20000 in
theorem gX3_undo_X0_restoreLatest_n168 : GoodIn wsX3_undo (wsX0_restoreLatest) := ggX3_undo_X0_restoreLatest
theorem dX3_undo_0 : decode cX3_undo 0 = .ok (.aload_n 0, 1) := by decide +kernel
theorem dX3_undo_1 : decode cX3_undo 1 = .ok (.getfield 19, 3) := by decide +kernel
theorem dX3_undo_4 : decode cX3_undo 4 = .ok (.aload_n 0, 1) := by decide +kernel
theorem dX3_undo_5 : decode cX3_undo 5 = .ok (.getfield 10, 3) := by decide +kernel
theorem dX3_undo_8 : decode cX3_undo 8 = .ok (.invokevirtual 168, 3) := by decide +kernel
theorem dX3_undo_11 : decode cX3_undo 11 = .ok (.ifCond .eq 13, 3) := by decide +kernel
theorem dX3_undo_14 : decode cX3_undo 14 = .ok (.aload_n 0, 1) := by decide +kernel
theorem dX3_undo_15 : decode cX3_undo 15 = .ok (.getfield 19, 3) := by decide +kernel
theorem dX3_undo_18 : decode cX3_undo 18 = .ok (.getfield 159, 3) := by decide +kernel
theorem dX3_undo_21 : decode cX3_undo 21 = .ok (.goto 5, 3) := by decide +kernel
theorem dX3_undo_24 : decode cX3_undo 24 = .ok (.ldc 56, 2) := by decide +kernel
theorem dX3_undo_26 : decode cX3_undo 26 = .ok (.ireturn, 1) := by decide +kernel
set_option maxRecDepth 20000 in
theorem ggX3_type_X2_add : GoodIn wsX3_type wsX2_add := goodIn_r _ [7, 8, 9, 10, 11, 12, 16, 17] (by decide +kernel) (by decide +kernel)
set_option maxRecDepth 20000 in
theorem gX3_type_X2_add_n172 : GoodIn wsX3_type (wsX2_add) := ggX3_type_X2_add
theorem dX3_type_0 : decode cX3_type 0 = .ok (.iload_n 1, 1) := by decide +kernel
theorem dX3_type_1 : decode cX3_type 1 = .ok (.bipush 32, 2) := by decide +kernel
theorem dX3_type_3 : decode cX3_type 3 = .ok (.if_icmp .lt 9, 3) := by decide +kernel
theorem dX3_type_6 : decode cX3_type 6 = .ok (.iload_n 1, 1) := by decide +kernel
theorem dX3_type_7 : decode cX3_type 7 = .ok (.bipush 126, 2) := by decide +kernel
theorem dX3_type_9 : decode cX3_type 9 = .ok (.if_icmp .le 6, 3) := by decide +kernel
theorem dX3_type_12 : decode cX3_type 12 = .ok (.ldc 30, 2) := by decide +kernel
theorem dX3_type_14 : decode cX3_type 14 = .ok (.ireturn, 1) := by decide +kernel
theorem dX3_type_15 : decode cX3_type 15 = .ok (.aload_n 0, 1) := by decide +kernel
theorem dX3_type_16 : decode cX3_type 16 = .ok (.getfield 26, 3) := by decide +kernel
theorem dX3_type_19 : decode cX3_type 19 = .ok (.iload_n 1, 1) := by decide +kernel
theorem dX3_type_20 : decode cX3_type 20 = .ok (.invokevirtual 172, 3) := by decide +kernel
theorem dX3_type_23 : decode cX3_type 23 = .ok (.ifCond .eq 13, 3) := by decide +kernel
theorem dX3_type_26 : decode cX3_type 26 = .ok (.aload_n 0, 1) := by decide +kernel
theorem dX3_type_27 : decode cX3_type 27 = .ok (.getfield 26, 3) := by decide +kernel
theorem dX3_type_30 : decode cX3_type 30 = .ok (.getfield 162, 3) := by decide +kernel
theorem dX3_type_33 : decode cX3_type 33 = .ok (.goto 5, 3) := by decide +kernel
theorem dX3_type_36 : decode cX3_type 36 = .ok (.ldc 55, 2) := by decide +kernel
theorem dX3_type_38 : decode cX3_type 38 = .ok (.ireturn, 1) := by decide +kernel
theorem dX3_clearText_0 : decode cX3_clearText 0 = .ok (.aload_n 0, 1) := by decide +kernel
theorem dX3_clearText_1 : decode cX3_clearText 1 = .ok (.getfield 26, 3) := by decide +kernel
theorem dX3_clearText_4 : decode cX3_clearText 4 = .ok (.getfield 162, 3) := by decide +kernel
theorem dX3_clearText_7 : decode cX3_clearText 7 = .ok (.istore_n 1, 1) := by decide +kernel
theorem dX3_clearText_8 : decode cX3_clearText 8 = .ok (.aload_n 0, 1) := by decide +kernel
theorem dX3_clearText_9 : decode cX3_clearText 9 = .ok (.getfield 26, 3) := by decide +kernel
theorem dX3_clearText_12 : decode cX3_clearText 12 = .ok (.iconst 0, 1) := by decide +kernel
theorem dX3_clearText_13 : decode cX3_clearText 13 = .ok (.putfield 162, 3) := by decide +kernel
theorem dX3_clearText_16 : decode cX3_clearText 16 = .ok (.iload_n 1, 1) := by decide +kernel
theorem dX3_clearText_17 : decode cX3_clearText 17 = .ok (.ireturn, 1) := by decide +kernel
set_option maxRecDepth 20000 in
theorem ggX3_fault_X2_whereItBreaksOff : GoodIn wsX3_fault wsX2_whereItBreaksOff := goodIn_r _ [7, 8, 9, 10, 11, 12, 19, 20] (by decide +kernel) (by decide +kernel)
set_option maxRecDepth 20000 in
theorem gX3_fault_X2_whereItBreaksOff_n175 : GoodIn wsX3_fault (wsX2_whereItBreaksOff) := ggX3_fault_X2_whereItBreaksOff
set_option maxRecDepth 20000 in
theorem ggX3_fault_X2_startOfClause : GoodIn wsX3_fault wsX2_startOfClause := goodIn_r _ [15, 9, 10, 11, 12, 19, 20] (by decide +kernel) (by decide +kernel)
set_option maxRecDepth 20000 in
theorem gX3_fault_X2_startOfClause_n178 : GoodIn wsX3_fault (wsX2_startOfClause) := ggX3_fault_X2_startOfClause
theorem dX3_fault_0 : decode cX3_fault 0 = .ok (.iload_n 1, 1) := by decide +kernel
theorem dX3_fault_1 : decode cX3_fault 1 = .ok (.ifCond .lt 8, 3) := by decide +kernel
theorem dX3_fault_4 : decode cX3_fault 4 = .ok (.iload_n 1, 1) := by decide +kernel
theorem dX3_fault_5 : decode cX3_fault 5 = .ok (.iconst 1, 1) := by decide +kernel
theorem dX3_fault_6 : decode cX3_fault 6 = .ok (.if_icmp .le 6, 3) := by decide +kernel
theorem dX3_fault_9 : decode cX3_fault 9 = .ok (.ldc 30, 2) := by decide +kernel
theorem dX3_fault_11 : decode cX3_fault 11 = .ok (.ireturn, 1) := by decide +kernel
theorem dX3_fault_12 : decode cX3_fault 12 = .ok (.aload_n 0, 1) := by decide +kernel
theorem dX3_fault_13 : decode cX3_fault 13 = .ok (.getfield 26, 3) := by decide +kernel
theorem dX3_fault_16 : decode cX3_fault 16 = .ok (.invokevirtual 175, 3) := by decide +kernel
theorem dX3_fault_19 : decode cX3_fault 19 = .ok (.istore_n 2, 1) := by decide +kernel
theorem dX3_fault_20 : decode cX3_fault 20 = .ok (.iload_n 2, 1) := by decide +kernel
theorem dX3_fault_21 : decode cX3_fault 21 = .ok (.iconst (-1), 1) := by decide +kernel
theorem dX3_fault_22 : decode cX3_fault 22 = .ok (.if_icmp .ne 6, 3) := by decide +kernel
theorem dX3_fault_25 : decode cX3_fault 25 = .ok (.ldc 133, 2) := by decide +kernel
theorem dX3_fault_27 : decode cX3_fault 27 = .ok (.ireturn, 1) := by decide +kernel
theorem dX3_fault_28 : decode cX3_fault 28 = .ok (.aload_n 0, 1) := by decide +kernel
theorem dX3_fault_29 : decode cX3_fault 29 = .ok (.getfield 26, 3) := by decide +kernel
theorem dX3_fault_32 : decode cX3_fault 32 = .ok (.iload_n 2, 1) := by decide +kernel
theorem dX3_fault_33 : decode cX3_fault 33 = .ok (.invokevirtual 178, 3) := by decide +kernel
theorem dX3_fault_36 : decode cX3_fault 36 = .ok (.istore_n 3, 1) := by decide +kernel
theorem dX3_fault_37 : decode cX3_fault 37 = .ok (.iload_n 1, 1) := by decide +kernel
theorem dX3_fault_38 : decode cX3_fault 38 = .ok (.ifCond .ne 7, 3) := by decide +kernel
theorem dX3_fault_41 : decode cX3_fault 41 = .ok (.iload_n 3, 1) := by decide +kernel
theorem dX3_fault_42 : decode cX3_fault 42 = .ok (.goto 6, 3) := by decide +kernel
theorem dX3_fault_45 : decode cX3_fault 45 = .ok (.iload_n 2, 1) := by decide +kernel
theorem dX3_fault_46 : decode cX3_fault 46 = .ok (.iload_n 3, 1) := by decide +kernel
theorem dX3_fault_47 : decode cX3_fault 47 = .ok (.isub, 1) := by decide +kernel
theorem dX3_fault_48 : decode cX3_fault 48 = .ok (.ireturn, 1) := by decide +kernel
set_option maxRecDepth 20000 in
theorem ggX3_play_X2_whereItBreaksOff : GoodIn wsX3_play wsX2_whereItBreaksOff := goodIn_r _ [8, 9, 10, 11, 12, 13, 115, 116] (by decide +kernel) (by decide +kernel)
set_option maxRecDepth 20000 in
theorem gX3_play_X2_whereItBreaksOff_n175 : GoodIn wsX3_play (wsX2_whereItBreaksOff) := ggX3_play_X2_whereItBreaksOff
set_option maxRecDepth 20000 in
theorem ggX3_play_X0_putAside : GoodIn wsX3_play wsX0_putAside := goodIn_r _ [17, 18, 19, 20, 21, 15, 22, 23, 24, 25, 26, 27, 28, 29, 30, 31, 32, 33, 34, 35, 36, 37, 38, 39, 40, 41, 12, 42, 43, 44, 45, 46, 47, 48, 49, 50, 51, 52, 117, 118, 119, 120, 121, 122, 123, 124, 125, 126, 127, 128, 129, 130, 131] (by decide +kernel) (by decide +kernel)
set_option maxRecDepth 20000 in
theorem gX3_play_X0_putAside_n31 : GoodIn wsX3_play (wsX0_putAside) := ggX3_play_X0_putAside
set_option maxRecDepth 20000 in
theorem ggX3_play_X3_bringText : GoodIn wsX3_play wsX3_bringText := goodIn_r _ [56, 1, 4, 57, 58, 11, 12, 13, 59, 25, 60, 61, 39, 40, 36, 62, 63, 64, 65, 66, 67, 68, 29, 69, 70, 71, 72, 30, 73, 74, 75, 76, 77, 78, 79, 80, 81, 82, 83, 84, 31, 32, 33, 34, 85, 86, 45, 87, 35, 88, 89, 90, 91, 92, 93, 94, 95, 96, 112, 113, 114, 115, 116, 119, 120, 121, 122, 123, 124, 125, 126, 127, 128, 129, 130, 131] (by decide +kernel) (by decide +kernel)
set_option maxRecDepth 20000 in
theorem gX3_play_X3_bringText : GoodIn wsX3_play (wsV RX3 181 RX3 yX3_bringText wsX3_bringText) := goodIn_app (goodIn_of _ (by decide +kernel)) ggX3_play_X3_bringText
set_option maxRecDepth 20000 in
theorem ggX3_play_X3_settle : GoodIn wsX3_play wsX3_settle := goodIn_r _ [100, 101, 3, 4, 102, 15, 103, 104, 18, 19, 20, 21, 22, 23, 24, 25, 26, 27, 28, 29, 30, 31, 32, 33, 34, 35, 36, 37, 38, 39, 40, 41, 12, 42, 43, 44, 45, 46, 47, 48, 49, 50, 51, 52, 105, 106, 107, 108, 109, 110, 111, 112, 113, 114, 117, 118, 119, 120, 121, 122, 123, 124, 125, 126, 127, 128, 129, 130, 131] (by decide +kernel) (by decide +kernel)
set_option maxRecDepth 20000 in
theorem gX3_play_X3_settle : GoodIn wsX3_play (wsV RX3 39 RX3 yX3_settle wsX3_settle) := goodIn_app (goodIn_of _ (by decide +kernel)) ggX3_play_X3_settle
theorem dX3_play_0 : decode cX3_play 0 = .ok (.aload_n 0, 1) := by decide +kernel
theorem dX3_play_1 : decode cX3_play 1 = .ok (.getfield 26, 3) := by decide +kernel
theorem dX3_play_4 : decode cX3_play 4 = .ok (.invokevirtual 175, 3) := by decide +kernel
theorem dX3_play_7 : decode cX3_play 7 = .ok (.iconst (-1), 1) := by decide +kernel
theorem dX3_play_8 : decode cX3_play 8 = .ok (.if_icmp .eq 6, 3) := by decide +kernel
theorem dX3_play_11 : decode cX3_play 11 = .ok (.ldc 56, 2) := by decide +kernel
theorem dX3_play_13 : decode cX3_play 13 = .ok (.ireturn, 1) := by decide +kernel
theorem dX3_play_14 : decode cX3_play 14 = .ok (.aload_n 0, 1) := by decide +kernel
theorem dX3_play_15 : decode cX3_play 15 = .ok (.getfield 19, 3) := by decide +kernel
theorem dX3_play_18 : decode cX3_play 18 = .ok (.aload_n 0, 1) := by decide +kernel
theorem dX3_play_19 : decode cX3_play 19 = .ok (.getfield 10, 3) := by decide +kernel
theorem dX3_play_22 : decode cX3_play 22 = .ok (.invokevirtual 31, 3) := by decide +kernel
theorem dX3_play_25 : decode cX3_play 25 = .ok (.aload_n 0, 1) := by decide +kernel
theorem dX3_play_26 : decode cX3_play 26 = .ok (.aload_n 0, 1) := by decide +kernel
theorem dX3_play_27 : decode cX3_play 27 = .ok (.invokevirtual 181, 3) := by decide +kernel
theorem dX3_play_30 : decode cX3_play 30 = .ok (.invokevirtual 39, 3) := by decide +kernel
theorem dX3_play_33 : decode cX3_play 33 = .ok (.ireturn, 1) := by decide +kernel
set_option maxRecDepth 20000 in
theorem ggX3_settle_X0_takeBack : GoodIn wsX3_settle wsX0_takeBack := goodIn_r _ [7, 8, 9, 10, 11, 5, 12, 13, 14, 15, 16, 17, 18, 19, 20, 21, 22, 23, 24, 25, 26, 27, 28, 29, 30, 31, 32, 33, 34, 35, 36, 37, 38, 39, 40, 41, 42, 43, 54, 55, 56, 57, 58, 59, 60, 61, 62, 63, 64, 65, 66, 67, 68] (by decide +kernel) (by decide +kernel)
set_option maxRecDepth 20000 in
theorem gX3_settle_X0_takeBack_n184 : GoodIn wsX3_settle (wsX0_takeBack) := ggX3_settle_X0_takeBack
set_option maxRecDepth 20000 in
theorem ggX3_settle_X0_keep : GoodIn wsX3_settle wsX0_keep := goodIn_r _ [46, 8, 47, 48, 49, 5, 50, 13, 9, 10, 11, 12, 54, 55] (by decide +kernel) (by decide +kernel)
set_option maxRecDepth 20000 in
theorem gX3_settle_X0_keep_n187 : GoodIn wsX3_settle (wsX0_keep) := ggX3_settle_X0_keep
theorem dX3_settle_0 : decode cX3_settle 0 = .ok (.iload_n 1, 1) := by decide +kernel
theorem dX3_settle_1 : decode cX3_settle 1 = .ok (.ldc 30, 2) := by decide +kernel
theorem dX3_settle_3 : decode cX3_settle 3 = .ok (.if_icmp .gt 17, 3) := by decide +kernel
theorem dX3_settle_6 : decode cX3_settle 6 = .ok (.aload_n 0, 1) := by decide +kernel
theorem dX3_settle_7 : decode cX3_settle 7 = .ok (.getfield 19, 3) := by decide +kernel
theorem dX3_settle_10 : decode cX3_settle 10 = .ok (.aload_n 0, 1) := by decide +kernel
theorem dX3_settle_11 : decode cX3_settle 11 = .ok (.getfield 10, 3) := by decide +kernel
theorem dX3_settle_14 : decode cX3_settle 14 = .ok (.invokevirtual 184, 3) := by decide +kernel
theorem dX3_settle_17 : decode cX3_settle 17 = .ok (.goto 10, 3) := by decide +kernel
theorem dX3_settle_20 : decode cX3_settle 20 = .ok (.aload_n 0, 1) := by decide +kernel
theorem dX3_settle_21 : decode cX3_settle 21 = .ok (.getfield 19, 3) := by decide +kernel
theorem dX3_settle_24 : decode cX3_settle 24 = .ok (.invokevirtual 187, 3) := by decide +kernel
theorem dX3_settle_27 : decode cX3_settle 27 = .ok (.iload_n 1, 1) := by decide +kernel
theorem dX3_settle_28 : decode cX3_settle 28 = .ok (.ireturn, 1) := by decide +kernel
set_option maxRecDepth 20000 in
theorem ggX3_bringText_X3_at : GoodIn wsX3_bringText wsX3_at := goodIn_r _ [7] (by decide +kernel) (by decide +kernel)
set_option maxRecDepth 20000 in
theorem gX3_bringText_X3_at : GoodIn wsX3_bringText (va_wsS RX3 71 yX3_at wsX3_at) := goodIn_app (goodIn_of _ (by decide +kernel)) ggX3_bringText_X3_at
set_option maxRecDepth 20000 in
theorem ggX3_bringText_X1_bring : GoodIn wsX3_bringText wsX1_bring := goodIn_r _ [11, 12, 13, 14, 15, 16, 6, 17, 18, 19, 20, 9, 21, 22, 23, 24, 25, 26, 27, 5, 7, 28, 29, 30, 31, 32, 33, 34, 35, 36, 37, 38, 39, 40, 41, 42, 43, 44, 45, 46, 47, 48, 49, 50, 51, 52, 53, 54, 55, 56, 57, 63, 64, 65, 66, 67, 68, 69, 70, 71, 72, 73, 74, 75] (by decide +kernel) (by decide +kernel)
set_option maxRecDepth 20000 in
theorem gX3_bringText_X1_bring_n35 : GoodIn wsX3_bringText (wsX1_bring) := ggX3_bringText_X1_bring
theorem dX3_bringText_0 : decode cX3_bringText 0 = .ok (.iconst 0, 1) := by decide +kernel
theorem dX3_bringText_1 : decode cX3_bringText 1 = .ok (.istore_n 1, 1) := by decide +kernel
theorem dX3_bringText_2 : decode cX3_bringText 2 = .ok (.iconst 0, 1) := by decide +kernel
theorem dX3_bringText_3 : decode cX3_bringText 3 = .ok (.istore_n 2, 1) := by decide +kernel
theorem dX3_bringText_4 : decode cX3_bringText 4 = .ok (.iconst 0, 1) := by decide +kernel
theorem dX3_bringText_5 : decode cX3_bringText 5 = .ok (.istore_n 3, 1) := by decide +kernel
theorem dX3_bringText_6 : decode cX3_bringText 6 = .ok (.iconst 0, 1) := by decide +kernel
theorem dX3_bringText_7 : decode cX3_bringText 7 = .ok (.istore 4, 2) := by decide +kernel
theorem dX3_bringText_9 : decode cX3_bringText 9 = .ok (.iload 4, 2) := by decide +kernel
theorem dX3_bringText_11 : decode cX3_bringText 11 = .ok (.aload_n 0, 1) := by decide +kernel
theorem dX3_bringText_12 : decode cX3_bringText 12 = .ok (.getfield 26, 3) := by decide +kernel
theorem dX3_bringText_15 : decode cX3_bringText 15 = .ok (.getfield 162, 3) := by decide +kernel
theorem dX3_bringText_18 : decode cX3_bringText 18 = .ok (.if_icmp .ge 99, 3) := by decide +kernel
theorem dX3_bringText_21 : decode cX3_bringText 21 = .ok (.aload_n 0, 1) := by decide +kernel
theorem dX3_bringText_22 : decode cX3_bringText 22 = .ok (.getfield 26, 3) := by decide +kernel
theorem dX3_bringText_25 : decode cX3_bringText 25 = .ok (.getfield 190, 3) := by decide +kernel
theorem dX3_bringText_28 : decode cX3_bringText 28 = .ok (.iload 4, 2) := by decide +kernel
theorem dX3_bringText_30 : decode cX3_bringText 30 = .ok (.invokestatic 71, 3) := by decide +kernel
theorem dX3_bringText_33 : decode cX3_bringText 33 = .ok (.istore 5, 2) := by decide +kernel
theorem dX3_bringText_35 : decode cX3_bringText 35 = .ok (.iload 5, 2) := by decide +kernel
theorem dX3_bringText_37 : decode cX3_bringText 37 = .ok (.bipush 59, 2) := by decide +kernel
theorem dX3_bringText_39 : decode cX3_bringText 39 = .ok (.if_icmp .ne 44, 3) := by decide +kernel
theorem dX3_bringText_42 : decode cX3_bringText 42 = .ok (.aload_n 0, 1) := by decide +kernel
theorem dX3_bringText_43 : decode cX3_bringText 43 = .ok (.getfield 10, 3) := by decide +kernel
theorem dX3_bringText_46 : decode cX3_bringText 46 = .ok (.iload_n 2, 1) := by decide +kernel
theorem dX3_bringText_47 : decode cX3_bringText 47 = .ok (.iconst (-1), 1) := by decide +kernel
theorem dX3_bringText_48 : decode cX3_bringText 48 = .ok (.iconst (-1), 1) := by decide +kernel
theorem dX3_bringText_49 : decode cX3_bringText 49 = .ok (.iconst (-1), 1) := by decide +kernel
theorem dX3_bringText_50 : decode cX3_bringText 50 = .ok (.invokevirtual 35, 3) := by decide +kernel
theorem dX3_bringText_53 : decode cX3_bringText 53 = .ok (.istore 6, 2) := by decide +kernel
theorem dX3_bringText_55 : decode cX3_bringText 55 = .ok (.iload 6, 2) := by decide +kernel
theorem dX3_bringText_57 : decode cX3_bringText 57 = .ok (.ldc 55, 2) := by decide +kernel
theorem dX3_bringText_59 : decode cX3_bringText 59 = .ok (.if_icmp .ne 6, 3) := by decide +kernel
theorem dX3_bringText_62 : decode cX3_bringText 62 = .ok (.ldc 55, 2) := by decide +kernel
theorem dX3_bringText_64 : decode cX3_bringText 64 = .ok (.ireturn, 1) := by decide +kernel
theorem dX3_bringText_65 : decode cX3_bringText 65 = .ok (.iload_n 1, 1) := by decide +kernel
theorem dX3_bringText_66 : decode cX3_bringText 66 = .ok (.iload 6, 2) := by decide +kernel
theorem dX3_bringText_68 : decode cX3_bringText 68 = .ok (.ifCond .lt 7, 3) := by decide +kernel
theorem dX3_bringText_71 : decode cX3_bringText 71 = .ok (.iconst 1, 1) := by decide +kernel
theorem dX3_bringText_72 : decode cX3_bringText 72 = .ok (.goto 4, 3) := by decide +kernel
theorem dX3_bringText_75 : decode cX3_bringText 75 = .ok (.iconst 0, 1) := by decide +kernel
theorem dX3_bringText_76 : decode cX3_bringText 76 = .ok (.iadd, 1) := by decide +kernel
theorem dX3_bringText_77 : decode cX3_bringText 77 = .ok (.istore_n 1, 1) := by decide +kernel
theorem dX3_bringText_78 : decode cX3_bringText 78 = .ok (.iconst 0, 1) := by decide +kernel
theorem dX3_bringText_79 : decode cX3_bringText 79 = .ok (.istore_n 2, 1) := by decide +kernel
theorem dX3_bringText_80 : decode cX3_bringText 80 = .ok (.goto 31, 3) := by decide +kernel
theorem dX3_bringText_83 : decode cX3_bringText 83 = .ok (.iload 5, 2) := by decide +kernel
theorem dX3_bringText_85 : decode cX3_bringText 85 = .ok (.bipush 45, 2) := by decide +kernel
theorem dX3_bringText_87 : decode cX3_bringText 87 = .ok (.if_icmp .ne 8, 3) := by decide +kernel
theorem dX3_bringText_90 : decode cX3_bringText 90 = .ok (.iconst 1, 1) := by decide +kernel
theorem dX3_bringText_91 : decode cX3_bringText 91 = .ok (.istore_n 3, 1) := by decide +kernel
theorem dX3_bringText_92 : decode cX3_bringText 92 = .ok (.goto 19, 3) := by decide +kernel
theorem dX3_bringText_95 : decode cX3_bringText 95 = .ok (.iload_n 2, 1) := by decide +kernel
theorem dX3_bringText_96 : decode cX3_bringText 96 = .ok (.iconst 1, 1) := by decide +kernel
theorem dX3_bringText_97 : decode cX3_bringText 97 = .ok (.iconst 2, 1) := by decide +kernel
theorem dX3_bringText_98 : decode cX3_bringText 98 = .ok (.iload 5, 2) := by decide +kernel
theorem dX3_bringText_100 : decode cX3_bringText 100 = .ok (.bipush 97, 2) := by decide +kernel
theorem dX3_bringText_102 : decode cX3_bringText 102 = .ok (.isub, 1) := by decide +kernel
theorem dX3_bringText_103 : decode cX3_bringText 103 = .ok (.imul, 1) := by decide +kernel
theorem dX3_bringText_104 : decode cX3_bringText 104 = .ok (.iload_n 3, 1) := by decide +kernel
theorem dX3_bringText_105 : decode cX3_bringText 105 = .ok (.iadd, 1) := by decide +kernel
theorem dX3_bringText_106 : decode cX3_bringText 106 = .ok (.ishl, 1) := by decide +kernel
theorem dX3_bringText_107 : decode cX3_bringText 107 = .ok (.ior, 1) := by decide +kernel
theorem dX3_bringText_108 : decode cX3_bringText 108 = .ok (.istore_n 2, 1) := by decide +kernel
theorem dX3_bringText_109 : decode cX3_bringText 109 = .ok (.iconst 0, 1) := by decide +kernel
theorem dX3_bringText_110 : decode cX3_bringText 110 = .ok (.istore_n 3, 1) := by decide +kernel
theorem dX3_bringText_111 : decode cX3_bringText 111 = .ok (.iinc 4 1, 3) := by decide +kernel
theorem dX3_bringText_114 : decode cX3_bringText 114 = .ok (.goto (-105), 3) := by decide +kernel
theorem dX3_bringText_117 : decode cX3_bringText 117 = .ok (.iload_n 1, 1) := by decide +kernel
theorem dX3_bringText_118 : decode cX3_bringText 118 = .ok (.ireturn, 1) := by decide +kernel
theorem dX3_foundOrNot_0 : decode cX3_foundOrNot 0 = .ok (.iload_n 0, 1) := by decide +kernel
theorem dX3_foundOrNot_1 : decode cX3_foundOrNot 1 = .ok (.ifCond .ge 8, 3) := by decide +kernel
theorem dX3_foundOrNot_4 : decode cX3_foundOrNot 4 = .ok (.ldc 133, 2) := by decide +kernel
theorem dX3_foundOrNot_6 : decode cX3_foundOrNot 6 = .ok (.goto 4, 3) := by decide +kernel
theorem dX3_foundOrNot_9 : decode cX3_foundOrNot 9 = .ok (.iload_n 0, 1) := by decide +kernel
theorem dX3_foundOrNot_10 : decode cX3_foundOrNot 10 = .ok (.ireturn, 1) := by decide +kernel
theorem dX3_at_0 : decode cX3_at 0 = .ok (.aload_n 0, 1) := by decide +kernel
theorem dX3_at_1 : decode cX3_at 1 = .ok (.ifnull 19, 3) := by decide +kernel
theorem dX3_at_4 : decode cX3_at 4 = .ok (.iload_n 1, 1) := by decide +kernel
theorem dX3_at_5 : decode cX3_at 5 = .ok (.ifCond .lt 15, 3) := by decide +kernel
theorem dX3_at_8 : decode cX3_at 8 = .ok (.iload_n 1, 1) := by decide +kernel
theorem dX3_at_9 : decode cX3_at 9 = .ok (.aload_n 0, 1) := by decide +kernel
theorem dX3_at_10 : decode cX3_at 10 = .ok (.arraylength, 1) := by decide +kernel
theorem dX3_at_11 : decode cX3_at 11 = .ok (.if_icmp .ge 9, 3) := by decide +kernel
theorem dX3_at_14 : decode cX3_at 14 = .ok (.aload_n 0, 1) := by decide +kernel
theorem dX3_at_15 : decode cX3_at 15 = .ok (.iload_n 1, 1) := by decide +kernel
theorem dX3_at_16 : decode cX3_at 16 = .ok (.iaload, 1) := by decide +kernel
theorem dX3_at_17 : decode cX3_at 17 = .ok (.goto 4, 3) := by decide +kernel
theorem dX3_at_20 : decode cX3_at 20 = .ok (.iconst 0, 1) := by decide +kernel
theorem dX3_at_21 : decode cX3_at 21 = .ok (.ireturn, 1) := by decide +kernel
theorem dX3_put_0 : decode cX3_put 0 = .ok (.aload_n 0, 1) := by decide +kernel
theorem dX3_put_1 : decode cX3_put 1 = .ok (.ifnull 17, 3) := by decide +kernel
theorem dX3_put_4 : decode cX3_put 4 = .ok (.iload_n 1, 1) := by decide +kernel
theorem dX3_put_5 : decode cX3_put 5 = .ok (.ifCond .lt 13, 3) := by decide +kernel
theorem dX3_put_8 : decode cX3_put 8 = .ok (.iload_n 1, 1) := by decide +kernel
theorem dX3_put_9 : decode cX3_put 9 = .ok (.aload_n 0, 1) := by decide +kernel
theorem dX3_put_10 : decode cX3_put 10 = .ok (.arraylength, 1) := by decide +kernel
theorem dX3_put_11 : decode cX3_put 11 = .ok (.if_icmp .ge 7, 3) := by decide +kernel
theorem dX3_put_14 : decode cX3_put 14 = .ok (.aload_n 0, 1) := by decide +kernel
theorem dX3_put_15 : decode cX3_put 15 = .ok (.iload_n 1, 1) := by decide +kernel
theorem dX3_put_16 : decode cX3_put 16 = .ok (.iload_n 2, 1) := by decide +kernel
theorem dX3_put_17 : decode cX3_put 17 = .ok (.iastore, 1) := by decide +kernel
theorem dX3_put_18 : decode cX3_put 18 = .ok (.return_, 1) := by decide +kernel
theorem dX3_longAt_0 : decode cX3_longAt 0 = .ok (.aload_n 0, 1) := by decide +kernel
theorem dX3_longAt_1 : decode cX3_longAt 1 = .ok (.ifnull 19, 3) := by decide +kernel
theorem dX3_longAt_4 : decode cX3_longAt 4 = .ok (.iload_n 1, 1) := by decide +kernel
theorem dX3_longAt_5 : decode cX3_longAt 5 = .ok (.ifCond .lt 15, 3) := by decide +kernel
theorem dX3_longAt_8 : decode cX3_longAt 8 = .ok (.iload_n 1, 1) := by decide +kernel
theorem dX3_longAt_9 : decode cX3_longAt 9 = .ok (.aload_n 0, 1) := by decide +kernel
theorem dX3_longAt_10 : decode cX3_longAt 10 = .ok (.arraylength, 1) := by decide +kernel
theorem dX3_longAt_11 : decode cX3_longAt 11 = .ok (.if_icmp .ge 9, 3) := by decide +kernel
theorem dX3_longAt_14 : decode cX3_longAt 14 = .ok (.aload_n 0, 1) := by decide +kernel
theorem dX3_longAt_15 : decode cX3_longAt 15 = .ok (.iload_n 1, 1) := by decide +kernel
theorem dX3_longAt_16 : decode cX3_longAt 16 = .ok (.laload, 1) := by decide +kernel
theorem dX3_longAt_17 : decode cX3_longAt 17 = .ok (.goto 4, 3) := by decide +kernel
theorem dX3_longAt_20 : decode cX3_longAt 20 = .ok (.lconst 0, 1) := by decide +kernel
theorem dX3_longAt_21 : decode cX3_longAt 21 = .ok (.lreturn, 1) := by decide +kernel
theorem dX3_putLong_0 : decode cX3_putLong 0 = .ok (.aload_n 0, 1) := by decide +kernel
theorem dX3_putLong_1 : decode cX3_putLong 1 = .ok (.ifnull 17, 3) := by decide +kernel
theorem dX3_putLong_4 : decode cX3_putLong 4 = .ok (.iload_n 1, 1) := by decide +kernel
theorem dX3_putLong_5 : decode cX3_putLong 5 = .ok (.ifCond .lt 13, 3) := by decide +kernel
theorem dX3_putLong_8 : decode cX3_putLong 8 = .ok (.iload_n 1, 1) := by decide +kernel
theorem dX3_putLong_9 : decode cX3_putLong 9 = .ok (.aload_n 0, 1) := by decide +kernel
theorem dX3_putLong_10 : decode cX3_putLong 10 = .ok (.arraylength, 1) := by decide +kernel
theorem dX3_putLong_11 : decode cX3_putLong 11 = .ok (.if_icmp .ge 7, 3) := by decide +kernel
theorem dX3_putLong_14 : decode cX3_putLong 14 = .ok (.aload_n 0, 1) := by decide +kernel
theorem dX3_putLong_15 : decode cX3_putLong 15 = .ok (.iload_n 1, 1) := by decide +kernel
theorem dX3_putLong_16 : decode cX3_putLong 16 = .ok (.lload_n 2, 1) := by decide +kernel
theorem dX3_putLong_17 : decode cX3_putLong 17 = .ok (.lastore, 1) := by decide +kernel
theorem dX3_putLong_18 : decode cX3_putLong 18 = .ok (.return_, 1) := by decide +kernel
theorem dX3_copyRow_0 : decode cX3_copyRow 0 = .ok (.aload_n 0, 1) := by decide +kernel
theorem dX3_copyRow_1 : decode cX3_copyRow 1 = .ok (.ifnull 21, 3) := by decide +kernel
theorem dX3_copyRow_4 : decode cX3_copyRow 4 = .ok (.aload_n 1, 1) := by decide +kernel
theorem dX3_copyRow_5 : decode cX3_copyRow 5 = .ok (.ifnull 17, 3) := by decide +kernel
theorem dX3_copyRow_8 : decode cX3_copyRow 8 = .ok (.aload_n 0, 1) := by decide +kernel
theorem dX3_copyRow_9 : decode cX3_copyRow 9 = .ok (.iconst 0, 1) := by decide +kernel
theorem dX3_copyRow_10 : decode cX3_copyRow 10 = .ok (.aload_n 1, 1) := by decide +kernel
theorem dX3_copyRow_11 : decode cX3_copyRow 11 = .ok (.iconst 0, 1) := by decide +kernel
theorem dX3_copyRow_12 : decode cX3_copyRow 12 = .ok (.aload_n 0, 1) := by decide +kernel
theorem dX3_copyRow_13 : decode cX3_copyRow 13 = .ok (.arraylength, 1) := by decide +kernel
theorem dX3_copyRow_14 : decode cX3_copyRow 14 = .ok (.aload_n 1, 1) := by decide +kernel
theorem dX3_copyRow_15 : decode cX3_copyRow 15 = .ok (.arraylength, 1) := by decide +kernel
theorem dX3_copyRow_16 : decode cX3_copyRow 16 = .ok (.invokestatic 193, 3) := by decide +kernel
theorem dX3_copyRow_19 : decode cX3_copyRow 19 = .ok (.invokestatic 198, 3) := by decide +kernel
theorem dX3_copyRow_22 : decode cX3_copyRow 22 = .ok (.return_, 1) := by decide +kernel
theorem dX3_copyLongRow_0 : decode cX3_copyLongRow 0 = .ok (.aload_n 0, 1) := by decide +kernel
theorem dX3_copyLongRow_1 : decode cX3_copyLongRow 1 = .ok (.ifnull 21, 3) := by decide +kernel
theorem dX3_copyLongRow_4 : decode cX3_copyLongRow 4 = .ok (.aload_n 1, 1) := by decide +kernel
theorem dX3_copyLongRow_5 : decode cX3_copyLongRow 5 = .ok (.ifnull 17, 3) := by decide +kernel
theorem dX3_copyLongRow_8 : decode cX3_copyLongRow 8 = .ok (.aload_n 0, 1) := by decide +kernel
theorem dX3_copyLongRow_9 : decode cX3_copyLongRow 9 = .ok (.iconst 0, 1) := by decide +kernel
theorem dX3_copyLongRow_10 : decode cX3_copyLongRow 10 = .ok (.aload_n 1, 1) := by decide +kernel
theorem dX3_copyLongRow_11 : decode cX3_copyLongRow 11 = .ok (.iconst 0, 1) := by decide +kernel
theorem dX3_copyLongRow_12 : decode cX3_copyLongRow 12 = .ok (.aload_n 0, 1) := by decide +kernel
theorem dX3_copyLongRow_13 : decode cX3_copyLongRow 13 = .ok (.arraylength, 1) := by decide +kernel
theorem dX3_copyLongRow_14 : decode cX3_copyLongRow 14 = .ok (.aload_n 1, 1) := by decide +kernel
theorem dX3_copyLongRow_15 : decode cX3_copyLongRow 15 = .ok (.arraylength, 1) := by decide +kernel
theorem dX3_copyLongRow_16 : decode cX3_copyLongRow 16 = .ok (.invokestatic 193, 3) := by decide +kernel
theorem dX3_copyLongRow_19 : decode cX3_copyLongRow 19 = .ok (.invokestatic 198, 3) := by decide +kernel
theorem dX3_copyLongRow_22 : decode cX3_copyLongRow 22 = .ok (.return_, 1) := by decide +kernel
theorem dX3_isIn_0 : decode cX3_isIn 0 = .ok (.lload_n 0, 1) := by decide +kernel
theorem dX3_isIn_1 : decode cX3_isIn 1 = .ok (.iload_n 2, 1) := by decide +kernel
theorem dX3_isIn_2 : decode cX3_isIn 2 = .ok (.lushr, 1) := by decide +kernel
theorem dX3_isIn_3 : decode cX3_isIn 3 = .ok (.lconst 1, 1) := by decide +kernel
theorem dX3_isIn_4 : decode cX3_isIn 4 = .ok (.land, 1) := by decide +kernel
theorem dX3_isIn_5 : decode cX3_isIn 5 = .ok (.lconst 0, 1) := by decide +kernel
theorem dX3_isIn_6 : decode cX3_isIn 6 = .ok (.lcmp, 1) := by decide +kernel
theorem dX3_isIn_7 : decode cX3_isIn 7 = .ok (.ifCond .eq 7, 3) := by decide +kernel
theorem dX3_isIn_10 : decode cX3_isIn 10 = .ok (.iconst 1, 1) := by decide +kernel
theorem dX3_isIn_11 : decode cX3_isIn 11 = .ok (.goto 4, 3) := by decide +kernel
theorem dX3_isIn_14 : decode cX3_isIn 14 = .ok (.iconst 0, 1) := by decide +kernel
theorem dX3_isIn_15 : decode cX3_isIn 15 = .ok (.ireturn, 1) := by decide +kernel
