theorem dX1_init_107 : decode cX1_init 107 = .ok (.invokestatic 53, 3) := by decide +kernel
theorem dX1_init_110 : decode cX1_init 110 = .ok (.iinc 1 1, 3) := by decide +kernel
theorem dX1_init_113 : decode cX1_init 113 = .ok (.goto (-18), 3) := by decide +kernel
theorem dX1_init_116 : decode cX1_init 116 = .ok (.return_, 1) := by decide +kernel
set_option maxRecDepth 20000 in
theorem ggX1_copyFrom_X3_copyRow : GoodIn wsX1_copyFrom wsX3_copyRow := goodIn_r _ [16, 17, 18, 19, 20, 21, 22, 23, 24] (by decide +kernel) (by decide +kernel)
set_option maxRecDepth 20000 in
theorem gX1_copyFrom_X3_copyRow_n57 : GoodIn wsX1_copyFrom (wsX3_copyRow) := ggX1_copyFrom_X3_copyRow
set_option maxRecDepth 20000 in
theorem ggX1_copyFrom_X3_copyLongRow : GoodIn wsX1_copyFrom wsX3_copyLongRow := goodIn_r _ [26, 17, 18, 19, 20, 21, 22, 23, 24] (by decide +kernel) (by decide +kernel)
set_option maxRecDepth 20000 in
theorem gX1_copyFrom_X3_copyLongRow_n61 : GoodIn wsX1_copyFrom (wsX3_copyLongRow) := ggX1_copyFrom_X3_copyLongRow
theorem dX1_copyFrom_0 : decode cX1_copyFrom 0 = .ok (.aload_n 1, 1) := by decide +kernel
theorem dX1_copyFrom_1 : decode cX1_copyFrom 1 = .ok (.ifnonnull 4, 3) := by decide +kernel
theorem dX1_copyFrom_4 : decode cX1_copyFrom 4 = .ok (.return_, 1) := by decide +kernel
theorem dX1_copyFrom_5 : decode cX1_copyFrom 5 = .ok (.aload_n 1, 1) := by decide +kernel
theorem dX1_copyFrom_6 : decode cX1_copyFrom 6 = .ok (.getfield 9, 3) := by decide +kernel
theorem dX1_copyFrom_9 : decode cX1_copyFrom 9 = .ok (.aload_n 0, 1) := by decide +kernel
theorem dX1_copyFrom_10 : decode cX1_copyFrom 10 = .ok (.getfield 9, 3) := by decide +kernel
theorem dX1_copyFrom_13 : decode cX1_copyFrom 13 = .ok (.invokestatic 57, 3) := by decide +kernel
theorem dX1_copyFrom_16 : decode cX1_copyFrom 16 = .ok (.aload_n 1, 1) := by decide +kernel
theorem dX1_copyFrom_17 : decode cX1_copyFrom 17 = .ok (.getfield 15, 3) := by decide +kernel
theorem dX1_copyFrom_20 : decode cX1_copyFrom 20 = .ok (.aload_n 0, 1) := by decide +kernel
theorem dX1_copyFrom_21 : decode cX1_copyFrom 21 = .ok (.getfield 15, 3) := by decide +kernel
theorem dX1_copyFrom_24 : decode cX1_copyFrom 24 = .ok (.invokestatic 57, 3) := by decide +kernel
theorem dX1_copyFrom_27 : decode cX1_copyFrom 27 = .ok (.aload_n 1, 1) := by decide +kernel
theorem dX1_copyFrom_28 : decode cX1_copyFrom 28 = .ok (.getfield 18, 3) := by decide +kernel
theorem dX1_copyFrom_31 : decode cX1_copyFrom 31 = .ok (.aload_n 0, 1) := by decide +kernel
theorem dX1_copyFrom_32 : decode cX1_copyFrom 32 = .ok (.getfield 18, 3) := by decide +kernel
theorem dX1_copyFrom_35 : decode cX1_copyFrom 35 = .ok (.invokestatic 57, 3) := by decide +kernel
theorem dX1_copyFrom_38 : decode cX1_copyFrom 38 = .ok (.aload_n 1, 1) := by decide +kernel
theorem dX1_copyFrom_39 : decode cX1_copyFrom 39 = .ok (.getfield 21, 3) := by decide +kernel
theorem dX1_copyFrom_42 : decode cX1_copyFrom 42 = .ok (.aload_n 0, 1) := by decide +kernel
theorem dX1_copyFrom_43 : decode cX1_copyFrom 43 = .ok (.getfield 21, 3) := by decide +kernel
theorem dX1_copyFrom_46 : decode cX1_copyFrom 46 = .ok (.invokestatic 57, 3) := by decide +kernel
theorem dX1_copyFrom_49 : decode cX1_copyFrom 49 = .ok (.aload_n 1, 1) := by decide +kernel
theorem dX1_copyFrom_50 : decode cX1_copyFrom 50 = .ok (.getfield 24, 3) := by decide +kernel
theorem dX1_copyFrom_53 : decode cX1_copyFrom 53 = .ok (.aload_n 0, 1) := by decide +kernel
theorem dX1_copyFrom_54 : decode cX1_copyFrom 54 = .ok (.getfield 24, 3) := by decide +kernel
theorem dX1_copyFrom_57 : decode cX1_copyFrom 57 = .ok (.invokestatic 57, 3) := by decide +kernel
theorem dX1_copyFrom_60 : decode cX1_copyFrom 60 = .ok (.aload_n 1, 1) := by decide +kernel
theorem dX1_copyFrom_61 : decode cX1_copyFrom 61 = .ok (.getfield 27, 3) := by decide +kernel
theorem dX1_copyFrom_64 : decode cX1_copyFrom 64 = .ok (.aload_n 0, 1) := by decide +kernel
theorem dX1_copyFrom_65 : decode cX1_copyFrom 65 = .ok (.getfield 27, 3) := by decide +kernel
theorem dX1_copyFrom_68 : decode cX1_copyFrom 68 = .ok (.invokestatic 57, 3) := by decide +kernel
theorem dX1_copyFrom_71 : decode cX1_copyFrom 71 = .ok (.aload_n 1, 1) := by decide +kernel
theorem dX1_copyFrom_72 : decode cX1_copyFrom 72 = .ok (.getfield 30, 3) := by decide +kernel
theorem dX1_copyFrom_75 : decode cX1_copyFrom 75 = .ok (.aload_n 0, 1) := by decide +kernel
theorem dX1_copyFrom_76 : decode cX1_copyFrom 76 = .ok (.getfield 30, 3) := by decide +kernel
theorem dX1_copyFrom_79 : decode cX1_copyFrom 79 = .ok (.invokestatic 57, 3) := by decide +kernel
theorem dX1_copyFrom_82 : decode cX1_copyFrom 82 = .ok (.aload_n 1, 1) := by decide +kernel
theorem dX1_copyFrom_83 : decode cX1_copyFrom 83 = .ok (.getfield 33, 3) := by decide +kernel
theorem dX1_copyFrom_86 : decode cX1_copyFrom 86 = .ok (.aload_n 0, 1) := by decide +kernel
theorem dX1_copyFrom_87 : decode cX1_copyFrom 87 = .ok (.getfield 33, 3) := by decide +kernel
theorem dX1_copyFrom_90 : decode cX1_copyFrom 90 = .ok (.invokestatic 61, 3) := by decide +kernel
theorem dX1_copyFrom_93 : decode cX1_copyFrom 93 = .ok (.aload_n 0, 1) := by decide +kernel
theorem dX1_copyFrom_94 : decode cX1_copyFrom 94 = .ok (.aload_n 1, 1) := by decide +kernel
theorem dX1_copyFrom_95 : decode cX1_copyFrom 95 = .ok (.getfield 37, 3) := by decide +kernel
theorem dX1_copyFrom_98 : decode cX1_copyFrom 98 = .ok (.putfield 37, 3) := by decide +kernel
theorem dX1_copyFrom_101 : decode cX1_copyFrom 101 = .ok (.aload_n 0, 1) := by decide +kernel
theorem dX1_copyFrom_102 : decode cX1_copyFrom 102 = .ok (.aload_n 1, 1) := by decide +kernel
theorem dX1_copyFrom_103 : decode cX1_copyFrom 103 = .ok (.getfield 41, 3) := by decide +kernel
theorem dX1_copyFrom_106 : decode cX1_copyFrom 106 = .ok (.putfield 41, 3) := by decide +kernel
theorem dX1_copyFrom_109 : decode cX1_copyFrom 109 = .ok (.aload_n 0, 1) := by decide +kernel
theorem dX1_copyFrom_110 : decode cX1_copyFrom 110 = .ok (.aload_n 1, 1) := by decide +kernel
theorem dX1_copyFrom_111 : decode cX1_copyFrom 111 = .ok (.getfield 44, 3) := by decide +kernel
theorem dX1_copyFrom_114 : decode cX1_copyFrom 114 = .ok (.putfield 44, 3) := by decide +kernel
theorem dX1_copyFrom_117 : decode cX1_copyFrom 117 = .ok (.aload_n 0, 1) := by decide +kernel
theorem dX1_copyFrom_118 : decode cX1_copyFrom 118 = .ok (.aload_n 1, 1) := by decide +kernel
theorem dX1_copyFrom_119 : decode cX1_copyFrom 119 = .ok (.getfield 47, 3) := by decide +kernel
theorem dX1_copyFrom_122 : decode cX1_copyFrom 122 = .ok (.putfield 47, 3) := by decide +kernel
theorem dX1_copyFrom_125 : decode cX1_copyFrom 125 = .ok (.aload_n 0, 1) := by decide +kernel
theorem dX1_copyFrom_126 : decode cX1_copyFrom 126 = .ok (.aload_n 1, 1) := by decide +kernel
theorem dX1_copyFrom_127 : decode cX1_copyFrom 127 = .ok (.getfield 50, 3) := by decide +kernel
theorem dX1_copyFrom_130 : decode cX1_copyFrom 130 = .ok (.putfield 50, 3) := by decide +kernel
theorem dX1_copyFrom_133 : decode cX1_copyFrom 133 = .ok (.return_, 1) := by decide +kernel
theorem dX1_has_0 : decode cX1_has 0 = .ok (.iload_n 1, 1) := by decide +kernel
theorem dX1_has_1 : decode cX1_has 1 = .ok (.ifCond .lt 15, 3) := by decide +kernel
theorem dX1_has_4 : decode cX1_has 4 = .ok (.iload_n 1, 1) := by decide +kernel
theorem dX1_has_5 : decode cX1_has 5 = .ok (.aload_n 0, 1) := by decide +kernel
theorem dX1_has_6 : decode cX1_has 6 = .ok (.getfield 37, 3) := by decide +kernel
theorem dX1_has_9 : decode cX1_has 9 = .ok (.if_icmp .ge 7, 3) := by decide +kernel
theorem dX1_has_12 : decode cX1_has 12 = .ok (.iconst 1, 1) := by decide +kernel
theorem dX1_has_13 : decode cX1_has 13 = .ok (.goto 4, 3) := by decide +kernel
theorem dX1_has_16 : decode cX1_has 16 = .ok (.iconst 0, 1) := by decide +kernel
theorem dX1_has_17 : decode cX1_has 17 = .ok (.ireturn, 1) := by decide +kernel
set_option maxRecDepth 20000 in
theorem ggX1_isDropped_X3_at : GoodIn wsX1_isDropped wsX3_at := goodIn_r _ [4] (by decide +kernel) (by decide +kernel)
set_option maxRecDepth 20000 in
theorem gX1_isDropped_X3_at_n65 : GoodIn wsX1_isDropped (wsX3_at) := ggX1_isDropped_X3_at
theorem dX1_isDropped_0 : decode cX1_isDropped 0 = .ok (.aload_n 0, 1) := by decide +kernel
theorem dX1_isDropped_1 : decode cX1_isDropped 1 = .ok (.getfield 18, 3) := by decide +kernel
theorem dX1_isDropped_4 : decode cX1_isDropped 4 = .ok (.iload_n 1, 1) := by decide +kernel
theorem dX1_isDropped_5 : decode cX1_isDropped 5 = .ok (.invokestatic 65, 3) := by decide +kernel
theorem dX1_isDropped_8 : decode cX1_isDropped 8 = .ok (.iconst 2, 1) := by decide +kernel
theorem dX1_isDropped_9 : decode cX1_isDropped 9 = .ok (.if_icmp .ne 7, 3) := by decide +kernel
theorem dX1_isDropped_12 : decode cX1_isDropped 12 = .ok (.iconst 1, 1) := by decide +kernel
theorem dX1_isDropped_13 : decode cX1_isDropped 13 = .ok (.goto 4, 3) := by decide +kernel
theorem dX1_isDropped_16 : decode cX1_isDropped 16 = .ok (.iconst 0, 1) := by decide +kernel
theorem dX1_isDropped_17 : decode cX1_isDropped 17 = .ok (.ireturn, 1) := by decide +kernel
set_option maxRecDepth 20000 in
theorem ggX1_wasTold_X3_at : GoodIn wsX1_wasTold wsX3_at := goodIn_r _ [4] (by decide +kernel) (by decide +kernel)
set_option maxRecDepth 20000 in
theorem gX1_wasTold_X3_at_n65 : GoodIn wsX1_wasTold (wsX3_at) := ggX1_wasTold_X3_at
theorem dX1_wasTold_0 : decode cX1_wasTold 0 = .ok (.aload_n 0, 1) := by decide +kernel
theorem dX1_wasTold_1 : decode cX1_wasTold 1 = .ok (.getfield 21, 3) := by decide +kernel
theorem dX1_wasTold_4 : decode cX1_wasTold 4 = .ok (.iload_n 1, 1) := by decide +kernel
theorem dX1_wasTold_5 : decode cX1_wasTold 5 = .ok (.invokestatic 65, 3) := by decide +kernel
theorem dX1_wasTold_8 : decode cX1_wasTold 8 = .ok (.iconst (-1), 1) := by decide +kernel
theorem dX1_wasTold_9 : decode cX1_wasTold 9 = .ok (.if_icmp .ne 7, 3) := by decide +kernel
theorem dX1_wasTold_12 : decode cX1_wasTold 12 = .ok (.iconst 1, 1) := by decide +kernel
theorem dX1_wasTold_13 : decode cX1_wasTold 13 = .ok (.goto 4, 3) := by decide +kernel
theorem dX1_wasTold_16 : decode cX1_wasTold 16 = .ok (.iconst 0, 1) := by decide +kernel
theorem dX1_wasTold_17 : decode cX1_wasTold 17 = .ok (.ireturn, 1) := by decide +kernel
set_option maxRecDepth 20000 in
theorem ggX1_rankOf_X3_at : GoodIn wsX1_rankOf wsX3_at := goodIn_r _ [4] (by decide +kernel) (by decide +kernel)
set_option maxRecDepth 20000 in
theorem gX1_rankOf_X3_at_n65 : GoodIn wsX1_rankOf (wsX3_at) := ggX1_rankOf_X3_at
theorem dX1_rankOf_0 : decode cX1_rankOf 0 = .ok (.iconst 0, 1) := by decide +kernel
theorem dX1_rankOf_1 : decode cX1_rankOf 1 = .ok (.istore_n 2, 1) := by decide +kernel
theorem dX1_rankOf_2 : decode cX1_rankOf 2 = .ok (.iload_n 2, 1) := by decide +kernel
theorem dX1_rankOf_3 : decode cX1_rankOf 3 = .ok (.bipush 6, 2) := by decide +kernel
theorem dX1_rankOf_5 : decode cX1_rankOf 5 = .ok (.if_icmp .ge 23, 3) := by decide +kernel
theorem dX1_rankOf_8 : decode cX1_rankOf 8 = .ok (.aload_n 0, 1) := by decide +kernel
theorem dX1_rankOf_9 : decode cX1_rankOf 9 = .ok (.getfield 9, 3) := by decide +kernel
theorem dX1_rankOf_12 : decode cX1_rankOf 12 = .ok (.iload_n 2, 1) := by decide +kernel
theorem dX1_rankOf_13 : decode cX1_rankOf 13 = .ok (.invokestatic 65, 3) := by decide +kernel
theorem dX1_rankOf_16 : decode cX1_rankOf 16 = .ok (.iload_n 1, 1) := by decide +kernel
theorem dX1_rankOf_17 : decode cX1_rankOf 17 = .ok (.if_icmp .ne 5, 3) := by decide +kernel
theorem dX1_rankOf_20 : decode cX1_rankOf 20 = .ok (.iload_n 2, 1) := by decide +kernel
theorem dX1_rankOf_21 : decode cX1_rankOf 21 = .ok (.ireturn, 1) := by decide +kernel
theorem dX1_rankOf_22 : decode cX1_rankOf 22 = .ok (.iinc 2 1, 3) := by decide +kernel
theorem dX1_rankOf_25 : decode cX1_rankOf 25 = .ok (.goto (-23), 3) := by decide +kernel
theorem dX1_rankOf_28 : decode cX1_rankOf 28 = .ok (.iconst (-1), 1) := by decide +kernel
theorem dX1_rankOf_29 : decode cX1_rankOf 29 = .ok (.ireturn, 1) := by decide +kernel
set_option maxRecDepth 20000 in
theorem ggX1_changeRank_X1_rankOf : GoodIn wsX1_changeRank wsX1_rankOf := goodIn_r _ [8, 1, 9, 10, 11, 14, 15, 16, 17, 18, 19, 20, 21, 22, 23, 24, 25, 26] (by decide +kernel) (by decide +kernel)
set_option maxRecDepth 20000 in
theorem gX1_changeRank_X1_rankOf : GoodIn wsX1_changeRank (wsV RX1 69 RX1 yX1_rankOf wsX1_rankOf) := goodIn_app (goodIn_of _ (by decide +kernel)) ggX1_changeRank_X1_rankOf
set_option maxRecDepth 20000 in
theorem ggX1_changeRank_X3_at : GoodIn wsX1_changeRank wsX3_at := goodIn_r _ [11] (by decide +kernel) (by decide +kernel)
set_option maxRecDepth 20000 in
theorem gX1_changeRank_X3_at_n65 : GoodIn wsX1_changeRank (wsX3_at) := ggX1_changeRank_X3_at
set_option maxRecDepth 20000 in
theorem ggX1_changeRank_X3_put : GoodIn wsX1_changeRank wsX3_put := goodIn_r _ [13] (by decide +kernel) (by decide +kernel)
set_option maxRecDepth 20000 in
theorem gX1_changeRank_X3_put_n53 : GoodIn wsX1_changeRank (wsX3_put) := ggX1_changeRank_X3_put
theorem dX1_changeRank_0 : decode cX1_changeRank 0 = .ok (.aload_n 0, 1) := by decide +kernel
theorem dX1_changeRank_1 : decode cX1_changeRank 1 = .ok (.iload_n 1, 1) := by decide +kernel
theorem dX1_changeRank_2 : decode cX1_changeRank 2 = .ok (.invokevirtual 69, 3) := by decide +kernel
theorem dX1_changeRank_5 : decode cX1_changeRank 5 = .ok (.istore_n 3, 1) := by decide +kernel
theorem dX1_changeRank_6 : decode cX1_changeRank 6 = .ok (.aload_n 0, 1) := by decide +kernel
theorem dX1_changeRank_7 : decode cX1_changeRank 7 = .ok (.getfield 9, 3) := by decide +kernel
theorem dX1_changeRank_10 : decode cX1_changeRank 10 = .ok (.iload_n 3, 1) := by decide +kernel
theorem dX1_changeRank_11 : decode cX1_changeRank 11 = .ok (.aload_n 0, 1) := by decide +kernel
theorem dX1_changeRank_12 : decode cX1_changeRank 12 = .ok (.getfield 9, 3) := by decide +kernel
theorem dX1_changeRank_15 : decode cX1_changeRank 15 = .ok (.iload_n 2, 1) := by decide +kernel
theorem dX1_changeRank_16 : decode cX1_changeRank 16 = .ok (.invokestatic 65, 3) := by decide +kernel
theorem dX1_changeRank_19 : decode cX1_changeRank 19 = .ok (.invokestatic 53, 3) := by decide +kernel
theorem dX1_changeRank_22 : decode cX1_changeRank 22 = .ok (.aload_n 0, 1) := by decide +kernel
theorem dX1_changeRank_23 : decode cX1_changeRank 23 = .ok (.getfield 9, 3) := by decide +kernel
theorem dX1_changeRank_26 : decode cX1_changeRank 26 = .ok (.iload_n 2, 1) := by decide +kernel
theorem dX1_changeRank_27 : decode cX1_changeRank 27 = .ok (.iload_n 1, 1) := by decide +kernel
theorem dX1_changeRank_28 : decode cX1_changeRank 28 = .ok (.invokestatic 53, 3) := by decide +kernel
theorem dX1_changeRank_31 : decode cX1_changeRank 31 = .ok (.iconst 0, 1) := by decide +kernel
theorem dX1_changeRank_32 : decode cX1_changeRank 32 = .ok (.istore 4, 2) := by decide +kernel
theorem dX1_changeRank_34 : decode cX1_changeRank 34 = .ok (.iload 4, 2) := by decide +kernel
theorem dX1_changeRank_36 : decode cX1_changeRank 36 = .ok (.aload_n 0, 1) := by decide +kernel
theorem dX1_changeRank_37 : decode cX1_changeRank 37 = .ok (.getfield 37, 3) := by decide +kernel
theorem dX1_changeRank_40 : decode cX1_changeRank 40 = .ok (.if_icmp .ge 32, 3) := by decide +kernel
theorem dX1_changeRank_43 : decode cX1_changeRank 43 = .ok (.aload_n 0, 1) := by decide +kernel
theorem dX1_changeRank_44 : decode cX1_changeRank 44 = .ok (.getfield 18, 3) := by decide +kernel
theorem dX1_changeRank_47 : decode cX1_changeRank 47 = .ok (.iload 4, 2) := by decide +kernel
theorem dX1_changeRank_49 : decode cX1_changeRank 49 = .ok (.invokestatic 65, 3) := by decide +kernel
theorem dX1_changeRank_52 : decode cX1_changeRank 52 = .ok (.iconst 1, 1) := by decide +kernel
theorem dX1_changeRank_53 : decode cX1_changeRank 53 = .ok (.if_icmp .ne 13, 3) := by decide +kernel
theorem dX1_changeRank_56 : decode cX1_changeRank 56 = .ok (.aload_n 0, 1) := by decide +kernel
theorem dX1_changeRank_57 : decode cX1_changeRank 57 = .ok (.getfield 18, 3) := by decide +kernel
theorem dX1_changeRank_60 : decode cX1_changeRank 60 = .ok (.iload 4, 2) := by decide +kernel
theorem dX1_changeRank_62 : decode cX1_changeRank 62 = .ok (.iconst 0, 1) := by decide +kernel
theorem dX1_changeRank_63 : decode cX1_changeRank 63 = .ok (.invokestatic 53, 3) := by decide +kernel
theorem dX1_changeRank_66 : decode cX1_changeRank 66 = .ok (.iinc 4 1, 3) := by decide +kernel
theorem dX1_changeRank_69 : decode cX1_changeRank 69 = .ok (.goto (-35), 3) := by decide +kernel
theorem dX1_changeRank_72 : decode cX1_changeRank 72 = .ok (.iload_n 3, 1) := by decide +kernel
theorem dX1_changeRank_73 : decode cX1_changeRank 73 = .ok (.ireturn, 1) := by decide +kernel
set_option maxRecDepth 20000 in
theorem ggX1_greatestOf_X3_at : GoodIn wsX1_greatestOf wsX3_at := goodIn_r _ [4] (by decide +kernel) (by decide +kernel)
set_option maxRecDepth 20000 in
theorem gX1_greatestOf_X3_at_n65 : GoodIn wsX1_greatestOf (wsX3_at) := ggX1_greatestOf_X3_at
theorem dX1_greatestOf_0 : decode cX1_greatestOf 0 = .ok (.iconst 5, 1) := by decide +kernel
theorem dX1_greatestOf_1 : decode cX1_greatestOf 1 = .ok (.istore_n 2, 1) := by decide +kernel
theorem dX1_greatestOf_2 : decode cX1_greatestOf 2 = .ok (.iload_n 2, 1) := by decide +kernel
theorem dX1_greatestOf_3 : decode cX1_greatestOf 3 = .ok (.ifCond .lt 41, 3) := by decide +kernel
theorem dX1_greatestOf_6 : decode cX1_greatestOf 6 = .ok (.aload_n 0, 1) := by decide +kernel
theorem dX1_greatestOf_7 : decode cX1_greatestOf 7 = .ok (.getfield 9, 3) := by decide +kernel
theorem dX1_greatestOf_10 : decode cX1_greatestOf 10 = .ok (.iload_n 2, 1) := by decide +kernel
theorem dX1_greatestOf_11 : decode cX1_greatestOf 11 = .ok (.invokestatic 65, 3) := by decide +kernel
theorem dX1_greatestOf_14 : decode cX1_greatestOf 14 = .ok (.istore_n 3, 1) := by decide +kernel
theorem dX1_greatestOf_15 : decode cX1_greatestOf 15 = .ok (.iload_n 1, 1) := by decide +kernel
theorem dX1_greatestOf_16 : decode cX1_greatestOf 16 = .ok (.iconst 2, 1) := by decide +kernel
theorem dX1_greatestOf_17 : decode cX1_greatestOf 17 = .ok (.iload_n 3, 1) := by decide +kernel
theorem dX1_greatestOf_18 : decode cX1_greatestOf 18 = .ok (.imul, 1) := by decide +kernel
theorem dX1_greatestOf_19 : decode cX1_greatestOf 19 = .ok (.ishr, 1) := by decide +kernel
theorem dX1_greatestOf_20 : decode cX1_greatestOf 20 = .ok (.iconst 3, 1) := by decide +kernel
theorem dX1_greatestOf_21 : decode cX1_greatestOf 21 = .ok (.iand, 1) := by decide +kernel
theorem dX1_greatestOf_22 : decode cX1_greatestOf 22 = .ok (.istore 4, 2) := by decide +kernel
theorem dX1_greatestOf_24 : decode cX1_greatestOf 24 = .ok (.iload 4, 2) := by decide +kernel
theorem dX1_greatestOf_26 : decode cX1_greatestOf 26 = .ok (.ifCond .eq 12, 3) := by decide +kernel
theorem dX1_greatestOf_29 : decode cX1_greatestOf 29 = .ok (.iconst 2, 1) := by decide +kernel
theorem dX1_greatestOf_30 : decode cX1_greatestOf 30 = .ok (.iload_n 3, 1) := by decide +kernel
theorem dX1_greatestOf_31 : decode cX1_greatestOf 31 = .ok (.imul, 1) := by decide +kernel
theorem dX1_greatestOf_32 : decode cX1_greatestOf 32 = .ok (.iload 4, 2) := by decide +kernel
theorem dX1_greatestOf_34 : decode cX1_greatestOf 34 = .ok (.iconst 1, 1) := by decide +kernel
theorem dX1_greatestOf_35 : decode cX1_greatestOf 35 = .ok (.ishr, 1) := by decide +kernel
theorem dX1_greatestOf_36 : decode cX1_greatestOf 36 = .ok (.iadd, 1) := by decide +kernel
theorem dX1_greatestOf_37 : decode cX1_greatestOf 37 = .ok (.ireturn, 1) := by decide +kernel
theorem dX1_greatestOf_38 : decode cX1_greatestOf 38 = .ok (.iinc 2 (-1), 3) := by decide +kernel
theorem dX1_greatestOf_41 : decode cX1_greatestOf 41 = .ok (.goto (-39), 3) := by decide +kernel
theorem dX1_greatestOf_44 : decode cX1_greatestOf 44 = .ok (.iconst (-1), 1) := by decide +kernel
theorem dX1_greatestOf_45 : decode cX1_greatestOf 45 = .ok (.ireturn, 1) := by decide +kernel
set_option maxRecDepth 20000 in
theorem ggX1_isLess_X1_greatestOf : GoodIn wsX1_isLess wsX1_greatestOf := goodIn_r _ [5, 6, 7, 8, 9, 12, 13, 14, 15, 16, 17, 18, 19, 20, 21, 22, 23, 24] (by decide +kernel) (by decide +kernel)
set_option maxRecDepth 20000 in
theorem gX1_isLess_X1_greatestOf : GoodIn wsX1_isLess (wsV RX1 73 RX1 yX1_greatestOf wsX1_greatestOf) := goodIn_app (goodIn_of _ (by decide +kernel)) ggX1_isLess_X1_greatestOf
set_option maxRecDepth 20000 in
theorem ggX1_isLess_X3_isIn : GoodIn wsX1_isLess wsX3_isIn := goodIn_r _ [11] (by decide +kernel) (by decide +kernel)
set_option maxRecDepth 20000 in
theorem gX1_isLess_X3_isIn_n76 : GoodIn wsX1_isLess (wsX3_isIn) := ggX1_isLess_X3_isIn
theorem dX1_isLess_0 : decode cX1_isLess 0 = .ok (.aload_n 0, 1) := by decide +kernel
theorem dX1_isLess_1 : decode cX1_isLess 1 = .ok (.iload_n 1, 1) := by decide +kernel
theorem dX1_isLess_2 : decode cX1_isLess 2 = .ok (.iload_n 2, 1) := by decide +kernel
theorem dX1_isLess_3 : decode cX1_isLess 3 = .ok (.ixor, 1) := by decide +kernel
theorem dX1_isLess_4 : decode cX1_isLess 4 = .ok (.invokevirtual 73, 3) := by decide +kernel
theorem dX1_isLess_7 : decode cX1_isLess 7 = .ok (.istore_n 3, 1) := by decide +kernel
theorem dX1_isLess_8 : decode cX1_isLess 8 = .ok (.iload_n 3, 1) := by decide +kernel
theorem dX1_isLess_9 : decode cX1_isLess 9 = .ok (.iconst (-1), 1) := by decide +kernel
theorem dX1_isLess_10 : decode cX1_isLess 10 = .ok (.if_icmp .eq 16, 3) := by decide +kernel
theorem dX1_isLess_13 : decode cX1_isLess 13 = .ok (.iload_n 2, 1) := by decide +kernel
theorem dX1_isLess_14 : decode cX1_isLess 14 = .ok (.i2l, 1) := by decide +kernel
theorem dX1_isLess_15 : decode cX1_isLess 15 = .ok (.iload_n 3, 1) := by decide +kernel
theorem dX1_isLess_16 : decode cX1_isLess 16 = .ok (.invokestatic 76, 3) := by decide +kernel
theorem dX1_isLess_19 : decode cX1_isLess 19 = .ok (.ifCond .eq 7, 3) := by decide +kernel
theorem dX1_isLess_22 : decode cX1_isLess 22 = .ok (.iconst 1, 1) := by decide +kernel
theorem dX1_isLess_23 : decode cX1_isLess 23 = .ok (.goto 4, 3) := by decide +kernel
theorem dX1_isLess_26 : decode cX1_isLess 26 = .ok (.iconst 0, 1) := by decide +kernel
theorem dX1_isLess_27 : decode cX1_isLess 27 = .ok (.ireturn, 1) := by decide +kernel
set_option maxRecDepth 20000 in
theorem ggX1_howManyLessThan_X1_isDropped : GoodIn wsX1_howManyLessThan wsX1_isDropped := goodIn_r _ [7, 8, 9, 10, 11, 23, 24, 25, 26, 27, 28, 29, 30, 31, 32, 33, 34, 35] (by decide +kernel) (by decide +kernel)
set_option maxRecDepth 20000 in
theorem gX1_howManyLessThan_X1_isDropped : GoodIn wsX1_howManyLessThan (wsV RX1 80 RX1 yX1_isDropped wsX1_isDropped) := goodIn_app (goodIn_of _ (by decide +kernel)) ggX1_howManyLessThan_X1_isDropped
set_option maxRecDepth 20000 in
theorem ggX1_howManyLessThan_X3_at : GoodIn wsX1_howManyLessThan wsX3_at := goodIn_r _ [11] (by decide +kernel) (by decide +kernel)
set_option maxRecDepth 20000 in
theorem gX1_howManyLessThan_X3_at_n65 : GoodIn wsX1_howManyLessThan (wsX3_at) := ggX1_howManyLessThan_X3_at
set_option maxRecDepth 20000 in
theorem ggX1_howManyLessThan_X1_isLess : GoodIn wsX1_howManyLessThan wsX1_isLess := goodIn_r _ [15, 16, 17, 18, 6, 19, 20, 9, 10, 11, 21, 22, 23, 24, 25, 26, 27, 28, 29, 30, 31, 32, 33, 34, 35] (by decide +kernel) (by decide +kernel)
set_option maxRecDepth 20000 in
theorem gX1_howManyLessThan_X1_isLess : GoodIn wsX1_howManyLessThan (wsV RX1 84 RX1 yX1_isLess wsX1_isLess) := goodIn_app (goodIn_of _ (by decide +kernel)) ggX1_howManyLessThan_X1_isLess
theorem dX1_howManyLessThan_0 : decode cX1_howManyLessThan 0 = .ok (.iconst 0, 1) := by decide +kernel
theorem dX1_howManyLessThan_1 : decode cX1_howManyLessThan 1 = .ok (.istore_n 2, 1) := by decide +kernel
theorem dX1_howManyLessThan_2 : decode cX1_howManyLessThan 2 = .ok (.iconst 0, 1) := by decide +kernel
theorem dX1_howManyLessThan_3 : decode cX1_howManyLessThan 3 = .ok (.istore_n 3, 1) := by decide +kernel
theorem dX1_howManyLessThan_4 : decode cX1_howManyLessThan 4 = .ok (.iload_n 3, 1) := by decide +kernel
theorem dX1_howManyLessThan_5 : decode cX1_howManyLessThan 5 = .ok (.aload_n 0, 1) := by decide +kernel
theorem dX1_howManyLessThan_6 : decode cX1_howManyLessThan 6 = .ok (.getfield 37, 3) := by decide +kernel
theorem dX1_howManyLessThan_9 : decode cX1_howManyLessThan 9 = .ok (.if_icmp .ge 43, 3) := by decide +kernel
theorem dX1_howManyLessThan_12 : decode cX1_howManyLessThan 12 = .ok (.aload_n 0, 1) := by decide +kernel
theorem dX1_howManyLessThan_13 : decode cX1_howManyLessThan 13 = .ok (.iload_n 3, 1) := by decide +kernel
theorem dX1_howManyLessThan_14 : decode cX1_howManyLessThan 14 = .ok (.invokevirtual 80, 3) := by decide +kernel
theorem dX1_howManyLessThan_17 : decode cX1_howManyLessThan 17 = .ok (.ifCond .ne 29, 3) := by decide +kernel
theorem dX1_howManyLessThan_20 : decode cX1_howManyLessThan 20 = .ok (.aload_n 0, 1) := by decide +kernel
theorem dX1_howManyLessThan_21 : decode cX1_howManyLessThan 21 = .ok (.aload_n 0, 1) := by decide +kernel
theorem dX1_howManyLessThan_22 : decode cX1_howManyLessThan 22 = .ok (.getfield 15, 3) := by decide +kernel
theorem dX1_howManyLessThan_25 : decode cX1_howManyLessThan 25 = .ok (.iload_n 3, 1) := by decide +kernel
theorem dX1_howManyLessThan_26 : decode cX1_howManyLessThan 26 = .ok (.invokestatic 65, 3) := by decide +kernel
theorem dX1_howManyLessThan_29 : decode cX1_howManyLessThan 29 = .ok (.aload_n 0, 1) := by decide +kernel
theorem dX1_howManyLessThan_30 : decode cX1_howManyLessThan 30 = .ok (.getfield 15, 3) := by decide +kernel
theorem dX1_howManyLessThan_33 : decode cX1_howManyLessThan 33 = .ok (.iload_n 1, 1) := by decide +kernel
theorem dX1_howManyLessThan_34 : decode cX1_howManyLessThan 34 = .ok (.invokestatic 65, 3) := by decide +kernel
theorem dX1_howManyLessThan_37 : decode cX1_howManyLessThan 37 = .ok (.invokevirtual 84, 3) := by decide +kernel
theorem dX1_howManyLessThan_40 : decode cX1_howManyLessThan 40 = .ok (.ifCond .eq 6, 3) := by decide +kernel
theorem dX1_howManyLessThan_43 : decode cX1_howManyLessThan 43 = .ok (.iinc 2 1, 3) := by decide +kernel
theorem dX1_howManyLessThan_46 : decode cX1_howManyLessThan 46 = .ok (.iinc 3 1, 3) := by decide +kernel
theorem dX1_howManyLessThan_49 : decode cX1_howManyLessThan 49 = .ok (.goto (-45), 3) := by decide +kernel
theorem dX1_howManyLessThan_52 : decode cX1_howManyLessThan 52 = .ok (.iload_n 2, 1) := by decide +kernel
theorem dX1_howManyLessThan_53 : decode cX1_howManyLessThan 53 = .ok (.ireturn, 1) := by decide +kernel
set_option maxRecDepth 20000 in
theorem ggX1_howMany_X3_at : GoodIn wsX1_howMany wsX3_at := goodIn_r _ [5] (by decide +kernel) (by decide +kernel)
set_option maxRecDepth 20000 in
theorem gX1_howMany_X3_at_n65 : GoodIn wsX1_howMany (wsX3_at) := ggX1_howMany_X3_at
theorem dX1_howMany_0 : decode cX1_howMany 0 = .ok (.iconst 0, 1) := by decide +kernel
theorem dX1_howMany_1 : decode cX1_howMany 1 = .ok (.istore_n 2, 1) := by decide +kernel
theorem dX1_howMany_2 : decode cX1_howMany 2 = .ok (.iconst 0, 1) := by decide +kernel
theorem dX1_howMany_3 : decode cX1_howMany 3 = .ok (.istore_n 3, 1) := by decide +kernel
theorem dX1_howMany_4 : decode cX1_howMany 4 = .ok (.iload_n 3, 1) := by decide +kernel
theorem dX1_howMany_5 : decode cX1_howMany 5 = .ok (.aload_n 0, 1) := by decide +kernel
theorem dX1_howMany_6 : decode cX1_howMany 6 = .ok (.getfield 37, 3) := by decide +kernel
theorem dX1_howMany_9 : decode cX1_howMany 9 = .ok (.if_icmp .ge 29, 3) := by decide +kernel
theorem dX1_howMany_12 : decode cX1_howMany 12 = .ok (.iload_n 2, 1) := by decide +kernel
theorem dX1_howMany_13 : decode cX1_howMany 13 = .ok (.aload_n 0, 1) := by decide +kernel
theorem dX1_howMany_14 : decode cX1_howMany 14 = .ok (.getfield 18, 3) := by decide +kernel
theorem dX1_howMany_17 : decode cX1_howMany 17 = .ok (.iload_n 3, 1) := by decide +kernel
theorem dX1_howMany_18 : decode cX1_howMany 18 = .ok (.invokestatic 65, 3) := by decide +kernel
theorem dX1_howMany_21 : decode cX1_howMany 21 = .ok (.iload_n 1, 1) := by decide +kernel
theorem dX1_howMany_22 : decode cX1_howMany 22 = .ok (.if_icmp .ne 7, 3) := by decide +kernel
theorem dX1_howMany_25 : decode cX1_howMany 25 = .ok (.iconst 1, 1) := by decide +kernel
theorem dX1_howMany_26 : decode cX1_howMany 26 = .ok (.goto 4, 3) := by decide +kernel
theorem dX1_howMany_29 : decode cX1_howMany 29 = .ok (.iconst 0, 1) := by decide +kernel
theorem dX1_howMany_30 : decode cX1_howMany 30 = .ok (.iadd, 1) := by decide +kernel
theorem dX1_howMany_31 : decode cX1_howMany 31 = .ok (.istore_n 2, 1) := by decide +kernel
theorem dX1_howMany_32 : decode cX1_howMany 32 = .ok (.iinc 3 1, 3) := by decide +kernel
theorem dX1_howMany_35 : decode cX1_howMany 35 = .ok (.goto (-31), 3) := by decide +kernel
theorem dX1_howMany_38 : decode cX1_howMany 38 = .ok (.iload_n 2, 1) := by decide +kernel
theorem dX1_howMany_39 : decode cX1_howMany 39 = .ok (.ireturn, 1) := by decide +kernel
set_option maxRecDepth 20000 in
theorem ggX1_emptyClause_X3_at : GoodIn wsX1_emptyClause wsX3_at := goodIn_r _ [5] (by decide +kernel) (by decide +kernel)
set_option maxRecDepth 20000 in
theorem gX1_emptyClause_X3_at_n65 : GoodIn wsX1_emptyClause (wsX3_at) := ggX1_emptyClause_X3_at
theorem dX1_emptyClause_0 : decode cX1_emptyClause 0 = .ok (.iconst 0, 1) := by decide +kernel
theorem dX1_emptyClause_1 : decode cX1_emptyClause 1 = .ok (.istore_n 1, 1) := by decide +kernel
theorem dX1_emptyClause_2 : decode cX1_emptyClause 2 = .ok (.iload_n 1, 1) := by decide +kernel
theorem dX1_emptyClause_3 : decode cX1_emptyClause 3 = .ok (.aload_n 0, 1) := by decide +kernel
theorem dX1_emptyClause_4 : decode cX1_emptyClause 4 = .ok (.getfield 37, 3) := by decide +kernel
theorem dX1_emptyClause_7 : decode cX1_emptyClause 7 = .ok (.if_icmp .ge 22, 3) := by decide +kernel
theorem dX1_emptyClause_10 : decode cX1_emptyClause 10 = .ok (.aload_n 0, 1) := by decide +kernel
theorem dX1_emptyClause_11 : decode cX1_emptyClause 11 = .ok (.getfield 15, 3) := by decide +kernel
theorem dX1_emptyClause_14 : decode cX1_emptyClause 14 = .ok (.iload_n 1, 1) := by decide +kernel
theorem dX1_emptyClause_15 : decode cX1_emptyClause 15 = .ok (.invokestatic 65, 3) := by decide +kernel
theorem dX1_emptyClause_18 : decode cX1_emptyClause 18 = .ok (.ifCond .ne 5, 3) := by decide +kernel
theorem dX1_emptyClause_21 : decode cX1_emptyClause 21 = .ok (.iload_n 1, 1) := by decide +kernel
theorem dX1_emptyClause_22 : decode cX1_emptyClause 22 = .ok (.ireturn, 1) := by decide +kernel
theorem dX1_emptyClause_23 : decode cX1_emptyClause 23 = .ok (.iinc 1 1, 3) := by decide +kernel
theorem dX1_emptyClause_26 : decode cX1_emptyClause 26 = .ok (.goto (-24), 3) := by decide +kernel
theorem dX1_emptyClause_29 : decode cX1_emptyClause 29 = .ok (.iconst (-1), 1) := by decide +kernel
theorem dX1_emptyClause_30 : decode cX1_emptyClause 30 = .ok (.ireturn, 1) := by decide +kernel
set_option maxRecDepth 20000 in
theorem ggX1_bring_X3_holdsAlways : GoodIn wsX1_bring wsX3_holdsAlways := goodIn_r _ [7] (by decide +kernel) (by decide +kernel)
set_option maxRecDepth 20000 in
theorem gX1_bring_X3_holdsAlways_n88 : GoodIn wsX1_bring (wsX3_holdsAlways) := ggX1_bring_X3_holdsAlways
set_option maxRecDepth 20000 in
theorem ggX1_bring_X1_hasAnotherWithin : GoodIn wsX1_bring wsX1_hasAnotherWithin := goodIn_r _ [12, 3, 13, 14, 15, 16, 11, 17, 18, 19, 6, 20, 21, 22, 51, 52, 53, 54, 55, 56, 57, 58, 59, 60, 61, 62, 63] (by decide +kernel) (by decide +kernel)
set_option maxRecDepth 20000 in
theorem gX1_bring_X1_hasAnotherWithin : GoodIn wsX1_bring (wsV RX1 91 RX1 yX1_hasAnotherWithin wsX1_hasAnotherWithin) := goodIn_app (goodIn_of _ (by decide +kernel)) ggX1_bring_X1_hasAnotherWithin
set_option maxRecDepth 20000 in
theorem ggX1_bring_X1_dropAllAround : GoodIn wsX1_bring wsX1_dropAllAround := goodIn_r _ [26, 3, 13, 18, 19, 6, 20, 21, 22, 27, 28, 51, 52, 53, 54, 55, 56, 57, 58, 59, 60, 61, 62, 63] (by decide +kernel) (by decide +kernel)
set_option maxRecDepth 20000 in
theorem gX1_bring_X1_dropAllAround : GoodIn wsX1_bring (wsV RX1 95 RX1 yX1_dropAllAround wsX1_dropAllAround) := goodIn_app (goodIn_of _ (by decide +kernel)) ggX1_bring_X1_dropAllAround
set_option maxRecDepth 20000 in
theorem ggX1_bring_X1_takeIn : GoodIn wsX1_bring wsX1_takeIn := goodIn_r _ [32, 3, 13, 18, 33, 34, 35, 36, 37, 38, 39, 40, 41, 27, 6, 28, 19, 20, 42, 43, 44, 45, 46, 47, 48, 49, 50, 51, 52, 53, 54, 55, 56, 57, 58, 59, 60, 61, 62, 63] (by decide +kernel) (by decide +kernel)
set_option maxRecDepth 20000 in
theorem gX1_bring_X1_takeIn : GoodIn wsX1_bring (wsV RX1 99 RX1 yX1_takeIn wsX1_takeIn) := goodIn_app (goodIn_of _ (by decide +kernel)) ggX1_bring_X1_takeIn
theorem dX1_bring_0 : decode cX1_bring 0 = .ok (.iload_n 1, 1) := by decide +kernel
theorem dX1_bring_1 : decode cX1_bring 1 = .ok (.invokestatic 88, 3) := by decide +kernel
theorem dX1_bring_4 : decode cX1_bring 4 = .ok (.ifCond .eq 15, 3) := by decide +kernel
theorem dX1_bring_7 : decode cX1_bring 7 = .ok (.aload_n 0, 1) := by decide +kernel
theorem dX1_bring_8 : decode cX1_bring 8 = .ok (.dup, 1) := by decide +kernel
theorem dX1_bring_9 : decode cX1_bring 9 = .ok (.getfield 47, 3) := by decide +kernel
theorem dX1_bring_12 : decode cX1_bring 12 = .ok (.iconst 1, 1) := by decide +kernel
theorem dX1_bring_13 : decode cX1_bring 13 = .ok (.iadd, 1) := by decide +kernel
theorem dX1_bring_14 : decode cX1_bring 14 = .ok (.putfield 47, 3) := by decide +kernel
theorem dX1_bring_17 : decode cX1_bring 17 = .ok (.iconst (-1), 1) := by decide +kernel
theorem dX1_bring_18 : decode cX1_bring 18 = .ok (.ireturn, 1) := by decide +kernel
theorem dX1_bring_19 : decode cX1_bring 19 = .ok (.aload_n 0, 1) := by decide +kernel
theorem dX1_bring_20 : decode cX1_bring 20 = .ok (.iload_n 1, 1) := by decide +kernel
theorem dX1_bring_21 : decode cX1_bring 21 = .ok (.invokevirtual 91, 3) := by decide +kernel
theorem dX1_bring_24 : decode cX1_bring 24 = .ok (.ifCond .eq 16, 3) := by decide +kernel
theorem dX1_bring_27 : decode cX1_bring 27 = .ok (.aload_n 0, 1) := by decide +kernel
theorem dX1_bring_28 : decode cX1_bring 28 = .ok (.dup, 1) := by decide +kernel
theorem dX1_bring_29 : decode cX1_bring 29 = .ok (.getfield 50, 3) := by decide +kernel
theorem dX1_bring_32 : decode cX1_bring 32 = .ok (.iconst 1, 1) := by decide +kernel
theorem dX1_bring_33 : decode cX1_bring 33 = .ok (.iadd, 1) := by decide +kernel
theorem dX1_bring_34 : decode cX1_bring 34 = .ok (.putfield 50, 3) := by decide +kernel
theorem dX1_bring_37 : decode cX1_bring 37 = .ok (.bipush (-2), 2) := by decide +kernel
theorem dX1_bring_39 : decode cX1_bring 39 = .ok (.ireturn, 1) := by decide +kernel
theorem dX1_bring_40 : decode cX1_bring 40 = .ok (.aload_n 0, 1) := by decide +kernel
theorem dX1_bring_41 : decode cX1_bring 41 = .ok (.getfield 37, 3) := by decide +kernel
theorem dX1_bring_44 : decode cX1_bring 44 = .ok (.bipush 40, 2) := by decide +kernel
theorem dX1_bring_46 : decode cX1_bring 46 = .ok (.if_icmp .lt 6, 3) := by decide +kernel
theorem dX1_bring_49 : decode cX1_bring 49 = .ok (.ldc 94, 2) := by decide +kernel
theorem dX1_bring_51 : decode cX1_bring 51 = .ok (.ireturn, 1) := by decide +kernel
theorem dX1_bring_52 : decode cX1_bring 52 = .ok (.aload_n 0, 1) := by decide +kernel
theorem dX1_bring_53 : decode cX1_bring 53 = .ok (.iload_n 1, 1) := by decide +kernel
theorem dX1_bring_54 : decode cX1_bring 54 = .ok (.invokevirtual 95, 3) := by decide +kernel
theorem dX1_bring_57 : decode cX1_bring 57 = .ok (.aload_n 0, 1) := by decide +kernel
theorem dX1_bring_58 : decode cX1_bring 58 = .ok (.iload_n 1, 1) := by decide +kernel
theorem dX1_bring_59 : decode cX1_bring 59 = .ok (.iload_n 2, 1) := by decide +kernel
theorem dX1_bring_60 : decode cX1_bring 60 = .ok (.iload_n 3, 1) := by decide +kernel
theorem dX1_bring_61 : decode cX1_bring 61 = .ok (.iload 4, 2) := by decide +kernel
theorem dX1_bring_63 : decode cX1_bring 63 = .ok (.invokevirtual 99, 3) := by decide +kernel
theorem dX1_bring_66 : decode cX1_bring 66 = .ok (.ireturn, 1) := by decide +kernel
set_option maxRecDepth 20000 in
theorem ggX1_hasAnotherWithin_X1_isDropped : GoodIn wsX1_hasAnotherWithin wsX1_isDropped := goodIn_r _ [7, 8, 9, 10, 11, 14, 15, 16, 17, 18, 19, 20, 21, 22, 23, 24, 25, 26] (by decide +kernel) (by decide +kernel)
set_option maxRecDepth 20000 in
theorem gX1_hasAnotherWithin_X1_isDropped : GoodIn wsX1_hasAnotherWithin (wsV RX1 80 RX1 yX1_isDropped wsX1_isDropped) := goodIn_app (goodIn_of _ (by decide +kernel)) ggX1_hasAnotherWithin_X1_isDropped
set_option maxRecDepth 20000 in
theorem ggX1_hasAnotherWithin_X3_at : GoodIn wsX1_hasAnotherWithin wsX3_at := goodIn_r _ [11] (by decide +kernel) (by decide +kernel)
set_option maxRecDepth 20000 in
theorem gX1_hasAnotherWithin_X3_at_n65 : GoodIn wsX1_hasAnotherWithin (wsX3_at) := ggX1_hasAnotherWithin_X3_at
set_option maxRecDepth 20000 in
theorem ggX1_hasAnotherWithin_X3_isWithin : GoodIn wsX1_hasAnotherWithin wsX3_isWithin := goodIn_r _ [13] (by decide +kernel) (by decide +kernel)
set_option maxRecDepth 20000 in
theorem gX1_hasAnotherWithin_X3_isWithin_n103 : GoodIn wsX1_hasAnotherWithin (wsX3_isWithin) := ggX1_hasAnotherWithin_X3_isWithin
theorem dX1_hasAnotherWithin_0 : decode cX1_hasAnotherWithin 0 = .ok (.iconst 0, 1) := by decide +kernel
theorem dX1_hasAnotherWithin_1 : decode cX1_hasAnotherWithin 1 = .ok (.istore_n 2, 1) := by decide +kernel
theorem dX1_hasAnotherWithin_2 : decode cX1_hasAnotherWithin 2 = .ok (.iload_n 2, 1) := by decide +kernel
theorem dX1_hasAnotherWithin_3 : decode cX1_hasAnotherWithin 3 = .ok (.aload_n 0, 1) := by decide +kernel
theorem dX1_hasAnotherWithin_4 : decode cX1_hasAnotherWithin 4 = .ok (.getfield 37, 3) := by decide +kernel
theorem dX1_hasAnotherWithin_7 : decode cX1_hasAnotherWithin 7 = .ok (.if_icmp .ge 34, 3) := by decide +kernel
theorem dX1_hasAnotherWithin_10 : decode cX1_hasAnotherWithin 10 = .ok (.aload_n 0, 1) := by decide +kernel
theorem dX1_hasAnotherWithin_11 : decode cX1_hasAnotherWithin 11 = .ok (.iload_n 2, 1) := by decide +kernel
theorem dX1_hasAnotherWithin_12 : decode cX1_hasAnotherWithin 12 = .ok (.invokevirtual 80, 3) := by decide +kernel
theorem dX1_hasAnotherWithin_15 : decode cX1_hasAnotherWithin 15 = .ok (.ifCond .ne 20, 3) := by decide +kernel
theorem dX1_hasAnotherWithin_18 : decode cX1_hasAnotherWithin 18 = .ok (.aload_n 0, 1) := by decide +kernel
theorem dX1_hasAnotherWithin_19 : decode cX1_hasAnotherWithin 19 = .ok (.getfield 15, 3) := by decide +kernel
theorem dX1_hasAnotherWithin_22 : decode cX1_hasAnotherWithin 22 = .ok (.iload_n 2, 1) := by decide +kernel
theorem dX1_hasAnotherWithin_23 : decode cX1_hasAnotherWithin 23 = .ok (.invokestatic 65, 3) := by decide +kernel
theorem dX1_hasAnotherWithin_26 : decode cX1_hasAnotherWithin 26 = .ok (.iload_n 1, 1) := by decide +kernel
theorem dX1_hasAnotherWithin_27 : decode cX1_hasAnotherWithin 27 = .ok (.invokestatic 103, 3) := by decide +kernel
theorem dX1_hasAnotherWithin_30 : decode cX1_hasAnotherWithin 30 = .ok (.ifCond .eq 5, 3) := by decide +kernel
theorem dX1_hasAnotherWithin_33 : decode cX1_hasAnotherWithin 33 = .ok (.iconst 1, 1) := by decide +kernel
theorem dX1_hasAnotherWithin_34 : decode cX1_hasAnotherWithin 34 = .ok (.ireturn, 1) := by decide +kernel
theorem dX1_hasAnotherWithin_35 : decode cX1_hasAnotherWithin 35 = .ok (.iinc 2 1, 3) := by decide +kernel
theorem dX1_hasAnotherWithin_38 : decode cX1_hasAnotherWithin 38 = .ok (.goto (-36), 3) := by decide +kernel
theorem dX1_hasAnotherWithin_41 : decode cX1_hasAnotherWithin 41 = .ok (.iconst 0, 1) := by decide +kernel
theorem dX1_hasAnotherWithin_42 : decode cX1_hasAnotherWithin 42 = .ok (.ireturn, 1) := by decide +kernel
set_option maxRecDepth 20000 in
theorem ggX1_dropAllAround_X3_at : GoodIn wsX1_dropAllAround wsX3_at := goodIn_r _ [6] (by decide +kernel) (by decide +kernel)
set_option maxRecDepth 20000 in
theorem gX1_dropAllAround_X3_at_n65 : GoodIn wsX1_dropAllAround (wsX3_at) := ggX1_dropAllAround_X3_at
set_option maxRecDepth 20000 in
theorem ggX1_dropAllAround_X3_isWithin : GoodIn wsX1_dropAllAround wsX3_isWithin := goodIn_r _ [8] (by decide +kernel) (by decide +kernel)
set_option maxRecDepth 20000 in
theorem gX1_dropAllAround_X3_isWithin_n103 : GoodIn wsX1_dropAllAround (wsX3_isWithin) := ggX1_dropAllAround_X3_isWithin
set_option maxRecDepth 20000 in
theorem ggX1_dropAllAround_X3_put : GoodIn wsX1_dropAllAround wsX3_put := goodIn_r _ [10] (by decide +kernel) (by decide +kernel)
set_option maxRecDepth 20000 in
theorem gX1_dropAllAround_X3_put_n53 : GoodIn wsX1_dropAllAround (wsX3_put) := ggX1_dropAllAround_X3_put
theorem dX1_dropAllAround_0 : decode cX1_dropAllAround 0 = .ok (.iconst 0, 1) := by decide +kernel
theorem dX1_dropAllAround_1 : decode cX1_dropAllAround 1 = .ok (.istore_n 2, 1) := by decide +kernel
theorem dX1_dropAllAround_2 : decode cX1_dropAllAround 2 = .ok (.iload_n 2, 1) := by decide +kernel
theorem dX1_dropAllAround_3 : decode cX1_dropAllAround 3 = .ok (.aload_n 0, 1) := by decide +kernel
theorem dX1_dropAllAround_4 : decode cX1_dropAllAround 4 = .ok (.getfield 37, 3) := by decide +kernel
theorem dX1_dropAllAround_7 : decode cX1_dropAllAround 7 = .ok (.if_icmp .ge 33, 3) := by decide +kernel
theorem dX1_dropAllAround_10 : decode cX1_dropAllAround 10 = .ok (.iload_n 1, 1) := by decide +kernel
theorem dX1_dropAllAround_11 : decode cX1_dropAllAround 11 = .ok (.aload_n 0, 1) := by decide +kernel
theorem dX1_dropAllAround_12 : decode cX1_dropAllAround 12 = .ok (.getfield 15, 3) := by decide +kernel
theorem dX1_dropAllAround_15 : decode cX1_dropAllAround 15 = .ok (.iload_n 2, 1) := by decide +kernel
theorem dX1_dropAllAround_16 : decode cX1_dropAllAround 16 = .ok (.invokestatic 65, 3) := by decide +kernel
theorem dX1_dropAllAround_19 : decode cX1_dropAllAround 19 = .ok (.invokestatic 103, 3) := by decide +kernel
theorem dX1_dropAllAround_22 : decode cX1_dropAllAround 22 = .ok (.ifCond .eq 12, 3) := by decide +kernel
theorem dX1_dropAllAround_25 : decode cX1_dropAllAround 25 = .ok (.aload_n 0, 1) := by decide +kernel
theorem dX1_dropAllAround_26 : decode cX1_dropAllAround 26 = .ok (.getfield 18, 3) := by decide +kernel
theorem dX1_dropAllAround_29 : decode cX1_dropAllAround 29 = .ok (.iload_n 2, 1) := by decide +kernel
theorem dX1_dropAllAround_30 : decode cX1_dropAllAround 30 = .ok (.iconst 2, 1) := by decide +kernel
theorem dX1_dropAllAround_31 : decode cX1_dropAllAround 31 = .ok (.invokestatic 53, 3) := by decide +kernel
theorem dX1_dropAllAround_34 : decode cX1_dropAllAround 34 = .ok (.iinc 2 1, 3) := by decide +kernel
theorem dX1_dropAllAround_37 : decode cX1_dropAllAround 37 = .ok (.goto (-35), 3) := by decide +kernel
theorem dX1_dropAllAround_40 : decode cX1_dropAllAround 40 = .ok (.return_, 1) := by decide +kernel
set_option maxRecDepth 20000 in
theorem ggX1_takeIn_X3_put : GoodIn wsX1_takeIn wsX3_put := goodIn_r _ [15] (by decide +kernel) (by decide +kernel)
set_option maxRecDepth 20000 in
theorem gX1_takeIn_X3_put_n53 : GoodIn wsX1_takeIn (wsX3_put) := ggX1_takeIn_X3_put
set_option maxRecDepth 20000 in
theorem ggX1_takeIn_X3_at : GoodIn wsX1_takeIn wsX3_at := goodIn_r _ [17] (by decide +kernel) (by decide +kernel)
set_option maxRecDepth 20000 in
theorem gX1_takeIn_X3_at_n65 : GoodIn wsX1_takeIn (wsX3_at) := ggX1_takeIn_X3_at
set_option maxRecDepth 20000 in
theorem ggX1_takeIn_X3_valuesOfClause : GoodIn wsX1_takeIn wsX3_valuesOfClause := goodIn_r _ [19, 20, 21, 22, 23, 14, 24] (by decide +kernel) (by decide +kernel)
set_option maxRecDepth 20000 in
theorem gX1_takeIn_X3_valuesOfClause_n112 : GoodIn wsX1_takeIn (wsX3_valuesOfClause) := ggX1_takeIn_X3_valuesOfClause
set_option maxRecDepth 20000 in
theorem ggX1_takeIn_X3_putLong : GoodIn wsX1_takeIn wsX3_putLong := goodIn_r _ [26] (by decide +kernel) (by decide +kernel)
set_option maxRecDepth 20000 in
theorem gX1_takeIn_X3_putLong_n116 : GoodIn wsX1_takeIn (wsX3_putLong) := ggX1_takeIn_X3_putLong
theorem dX1_takeIn_0 : decode cX1_takeIn 0 = .ok (.aload_n 0, 1) := by decide +kernel
theorem dX1_takeIn_1 : decode cX1_takeIn 1 = .ok (.getfield 37, 3) := by decide +kernel
theorem dX1_takeIn_4 : decode cX1_takeIn 4 = .ok (.istore 5, 2) := by decide +kernel
theorem dX1_takeIn_6 : decode cX1_takeIn 6 = .ok (.iload_n 2, 1) := by decide +kernel
theorem dX1_takeIn_7 : decode cX1_takeIn 7 = .ok (.iconst (-1), 1) := by decide +kernel
theorem dX1_takeIn_8 : decode cX1_takeIn 8 = .ok (.if_icmp .ne 7, 3) := by decide +kernel
theorem dX1_takeIn_11 : decode cX1_takeIn 11 = .ok (.iconst 1, 1) := by decide +kernel
theorem dX1_takeIn_12 : decode cX1_takeIn 12 = .ok (.goto 4, 3) := by decide +kernel
theorem dX1_takeIn_15 : decode cX1_takeIn 15 = .ok (.iconst 0, 1) := by decide +kernel
theorem dX1_takeIn_16 : decode cX1_takeIn 16 = .ok (.istore 6, 2) := by decide +kernel
theorem dX1_takeIn_18 : decode cX1_takeIn 18 = .ok (.aload_n 0, 1) := by decide +kernel
theorem dX1_takeIn_19 : decode cX1_takeIn 19 = .ok (.getfield 15, 3) := by decide +kernel
theorem dX1_takeIn_22 : decode cX1_takeIn 22 = .ok (.iload 5, 2) := by decide +kernel
theorem dX1_takeIn_24 : decode cX1_takeIn 24 = .ok (.iload_n 1, 1) := by decide +kernel
theorem dX1_takeIn_25 : decode cX1_takeIn 25 = .ok (.invokestatic 53, 3) := by decide +kernel
theorem dX1_takeIn_28 : decode cX1_takeIn 28 = .ok (.aload_n 0, 1) := by decide +kernel
theorem dX1_takeIn_29 : decode cX1_takeIn 29 = .ok (.getfield 18, 3) := by decide +kernel
theorem dX1_takeIn_32 : decode cX1_takeIn 32 = .ok (.iload 5, 2) := by decide +kernel
theorem dX1_takeIn_34 : decode cX1_takeIn 34 = .ok (.iconst 0, 1) := by decide +kernel
theorem dX1_takeIn_35 : decode cX1_takeIn 35 = .ok (.invokestatic 53, 3) := by decide +kernel
theorem dX1_takeIn_38 : decode cX1_takeIn 38 = .ok (.aload_n 0, 1) := by decide +kernel
theorem dX1_takeIn_39 : decode cX1_takeIn 39 = .ok (.getfield 21, 3) := by decide +kernel
theorem dX1_takeIn_42 : decode cX1_takeIn 42 = .ok (.iload 5, 2) := by decide +kernel
theorem dX1_takeIn_44 : decode cX1_takeIn 44 = .ok (.iload_n 2, 1) := by decide +kernel
theorem dX1_takeIn_45 : decode cX1_takeIn 45 = .ok (.invokestatic 53, 3) := by decide +kernel
theorem dX1_takeIn_48 : decode cX1_takeIn 48 = .ok (.aload_n 0, 1) := by decide +kernel
theorem dX1_takeIn_49 : decode cX1_takeIn 49 = .ok (.getfield 24, 3) := by decide +kernel
theorem dX1_takeIn_52 : decode cX1_takeIn 52 = .ok (.iload 5, 2) := by decide +kernel
theorem dX1_takeIn_54 : decode cX1_takeIn 54 = .ok (.iload_n 3, 1) := by decide +kernel
theorem dX1_takeIn_55 : decode cX1_takeIn 55 = .ok (.invokestatic 53, 3) := by decide +kernel
theorem dX1_takeIn_58 : decode cX1_takeIn 58 = .ok (.aload_n 0, 1) := by decide +kernel
theorem dX1_takeIn_59 : decode cX1_takeIn 59 = .ok (.getfield 27, 3) := by decide +kernel
theorem dX1_takeIn_62 : decode cX1_takeIn 62 = .ok (.iload 5, 2) := by decide +kernel
theorem dX1_takeIn_64 : decode cX1_takeIn 64 = .ok (.iload 4, 2) := by decide +kernel
theorem dX1_takeIn_66 : decode cX1_takeIn 66 = .ok (.invokestatic 53, 3) := by decide +kernel
theorem dX1_takeIn_69 : decode cX1_takeIn 69 = .ok (.aload_n 0, 1) := by decide +kernel
theorem dX1_takeIn_70 : decode cX1_takeIn 70 = .ok (.getfield 30, 3) := by decide +kernel
theorem dX1_takeIn_73 : decode cX1_takeIn 73 = .ok (.iload 5, 2) := by decide +kernel
theorem dX1_takeIn_75 : decode cX1_takeIn 75 = .ok (.iload 6, 2) := by decide +kernel
theorem dX1_takeIn_77 : decode cX1_takeIn 77 = .ok (.ifCond .eq 7, 3) := by decide +kernel
theorem dX1_takeIn_80 : decode cX1_takeIn 80 = .ok (.iconst 0, 1) := by decide +kernel
theorem dX1_takeIn_81 : decode cX1_takeIn 81 = .ok (.goto 24, 3) := by decide +kernel
theorem dX1_takeIn_84 : decode cX1_takeIn 84 = .ok (.iconst 1, 1) := by decide +kernel
theorem dX1_takeIn_85 : decode cX1_takeIn 85 = .ok (.aload_n 0, 1) := by decide +kernel
theorem dX1_takeIn_86 : decode cX1_takeIn 86 = .ok (.getfield 30, 3) := by decide +kernel
theorem dX1_takeIn_89 : decode cX1_takeIn 89 = .ok (.iload_n 2, 1) := by decide +kernel
theorem dX1_takeIn_90 : decode cX1_takeIn 90 = .ok (.invokestatic 65, 3) := by decide +kernel
theorem dX1_takeIn_93 : decode cX1_takeIn 93 = .ok (.aload_n 0, 1) := by decide +kernel
theorem dX1_takeIn_94 : decode cX1_takeIn 94 = .ok (.getfield 30, 3) := by decide +kernel
theorem dX1_takeIn_97 : decode cX1_takeIn 97 = .ok (.iload_n 3, 1) := by decide +kernel
theorem dX1_takeIn_98 : decode cX1_takeIn 98 = .ok (.invokestatic 65, 3) := by decide +kernel
theorem dX1_takeIn_101 : decode cX1_takeIn 101 = .ok (.invokestatic 106, 3) := by decide +kernel
theorem dX1_takeIn_104 : decode cX1_takeIn 104 = .ok (.iadd, 1) := by decide +kernel
theorem dX1_takeIn_105 : decode cX1_takeIn 105 = .ok (.invokestatic 53, 3) := by decide +kernel
theorem dX1_takeIn_108 : decode cX1_takeIn 108 = .ok (.aload_n 0, 1) := by decide +kernel
theorem dX1_takeIn_109 : decode cX1_takeIn 109 = .ok (.getfield 33, 3) := by decide +kernel
theorem dX1_takeIn_112 : decode cX1_takeIn 112 = .ok (.iload 5, 2) := by decide +kernel
theorem dX1_takeIn_114 : decode cX1_takeIn 114 = .ok (.iload_n 1, 1) := by decide +kernel
theorem dX1_takeIn_115 : decode cX1_takeIn 115 = .ok (.invokestatic 112, 3) := by decide +kernel
theorem dX1_takeIn_118 : decode cX1_takeIn 118 = .ok (.invokestatic 116, 3) := by decide +kernel
theorem dX1_takeIn_121 : decode cX1_takeIn 121 = .ok (.aload_n 0, 1) := by decide +kernel
theorem dX1_takeIn_122 : decode cX1_takeIn 122 = .ok (.iload 5, 2) := by decide +kernel
theorem dX1_takeIn_124 : decode cX1_takeIn 124 = .ok (.iconst 1, 1) := by decide +kernel
theorem dX1_takeIn_125 : decode cX1_takeIn 125 = .ok (.iadd, 1) := by decide +kernel
theorem dX1_takeIn_126 : decode cX1_takeIn 126 = .ok (.putfield 37, 3) := by decide +kernel
theorem dX1_takeIn_129 : decode cX1_takeIn 129 = .ok (.iload 5, 2) := by decide +kernel
theorem dX1_takeIn_131 : decode cX1_takeIn 131 = .ok (.ireturn, 1) := by decide +kernel
set_option maxRecDepth 20000 in
theorem ggX1_takeStep_X1_emptyClause : GoodIn wsX1_takeStep wsX1_emptyClause := goodIn_r _ [9, 10, 11, 12, 13, 14, 82, 83, 84, 85, 86, 87, 88, 89, 90, 91, 92, 93, 94] (by decide +kernel) (by decide +kernel)
set_option maxRecDepth 20000 in
theorem gX1_takeStep_X1_emptyClause : GoodIn wsX1_takeStep (wsV RX1 120 RX1 yX1_emptyClause wsX1_emptyClause) := goodIn_app (goodIn_of _ (by decide +kernel)) ggX1_takeStep_X1_emptyClause
set_option maxRecDepth 20000 in
theorem ggX1_takeStep_X1_nextChoice : GoodIn wsX1_takeStep wsX1_nextChoice := goodIn_r _ [18, 19, 2, 10, 11, 3, 12, 13, 14, 20, 21, 22, 23, 24, 25, 26, 82, 83, 84, 85, 86, 87, 88, 89, 90, 91, 92, 93, 94] (by decide +kernel) (by decide +kernel)
set_option maxRecDepth 20000 in
theorem gX1_takeStep_X1_nextChoice : GoodIn wsX1_takeStep (wsV RX1 124 RX1 yX1_nextChoice wsX1_nextChoice) := goodIn_app (goodIn_of _ (by decide +kernel)) ggX1_takeStep_X1_nextChoice
set_option maxRecDepth 20000 in
theorem ggX1_takeStep_X3_put : GoodIn wsX1_takeStep wsX3_put := goodIn_r _ [28] (by decide +kernel) (by decide +kernel)
set_option maxRecDepth 20000 in
theorem gX1_takeStep_X3_put_n53 : GoodIn wsX1_takeStep (wsX3_put) := ggX1_takeStep_X3_put
set_option maxRecDepth 20000 in
theorem ggX1_takeStep_X1_resolveWithDone : GoodIn wsX1_takeStep wsX1_resolveWithDone := goodIn_r _ [32, 11, 10, 3, 4, 12, 13, 14, 33, 34, 35, 8, 36, 37, 38, 39, 40, 41, 42, 43, 44, 45, 46, 47, 48, 49, 50, 51, 52, 53, 54, 55, 56, 57, 58, 59, 27, 28, 60, 61, 62, 63, 64, 65, 66, 67, 68, 69, 70, 71, 72, 73, 74, 75, 76, 77, 78, 79, 80, 81, 82, 83, 84, 85, 86, 87, 88, 89, 90, 91, 92, 93, 94] (by decide +kernel) (by decide +kernel)
set_option maxRecDepth 20000 in
theorem gX1_takeStep_X1_resolveWithDone : GoodIn wsX1_takeStep (wsV RX1 128 RX1 yX1_resolveWithDone wsX1_resolveWithDone) := goodIn_app (goodIn_of _ (by decide +kernel)) ggX1_takeStep_X1_resolveWithDone
theorem dX1_takeStep_0 : decode cX1_takeStep 0 = .ok (.aload_n 0, 1) := by decide +kernel
theorem dX1_takeStep_1 : decode cX1_takeStep 1 = .ok (.invokevirtual 120, 3) := by decide +kernel
theorem dX1_takeStep_4 : decode cX1_takeStep 4 = .ok (.iconst (-1), 1) := by decide +kernel
theorem dX1_takeStep_5 : decode cX1_takeStep 5 = .ok (.if_icmp .ne 10, 3) := by decide +kernel
theorem dX1_takeStep_8 : decode cX1_takeStep 8 = .ok (.aload_n 0, 1) := by decide +kernel
theorem dX1_takeStep_9 : decode cX1_takeStep 9 = .ok (.invokevirtual 124, 3) := by decide +kernel
theorem dX1_takeStep_12 : decode cX1_takeStep 12 = .ok (.goto 4, 3) := by decide +kernel
theorem dX1_takeStep_15 : decode cX1_takeStep 15 = .ok (.iconst (-1), 1) := by decide +kernel
theorem dX1_takeStep_16 : decode cX1_takeStep 16 = .ok (.istore_n 1, 1) := by decide +kernel
theorem dX1_takeStep_17 : decode cX1_takeStep 17 = .ok (.iload_n 1, 1) := by decide +kernel
theorem dX1_takeStep_18 : decode cX1_takeStep 18 = .ok (.iconst (-1), 1) := by decide +kernel
theorem dX1_takeStep_19 : decode cX1_takeStep 19 = .ok (.if_icmp .ne 6, 3) := by decide +kernel
theorem dX1_takeStep_22 : decode cX1_takeStep 22 = .ok (.ldc 127, 2) := by decide +kernel
theorem dX1_takeStep_24 : decode cX1_takeStep 24 = .ok (.ireturn, 1) := by decide +kernel
theorem dX1_takeStep_25 : decode cX1_takeStep 25 = .ok (.aload_n 0, 1) := by decide +kernel
theorem dX1_takeStep_26 : decode cX1_takeStep 26 = .ok (.dup, 1) := by decide +kernel
theorem dX1_takeStep_27 : decode cX1_takeStep 27 = .ok (.getfield 41, 3) := by decide +kernel
theorem dX1_takeStep_30 : decode cX1_takeStep 30 = .ok (.iconst 1, 1) := by decide +kernel
theorem dX1_takeStep_31 : decode cX1_takeStep 31 = .ok (.iadd, 1) := by decide +kernel
theorem dX1_takeStep_32 : decode cX1_takeStep 32 = .ok (.putfield 41, 3) := by decide +kernel
theorem dX1_takeStep_35 : decode cX1_takeStep 35 = .ok (.aload_n 0, 1) := by decide +kernel
theorem dX1_takeStep_36 : decode cX1_takeStep 36 = .ok (.getfield 18, 3) := by decide +kernel
theorem dX1_takeStep_39 : decode cX1_takeStep 39 = .ok (.iload_n 1, 1) := by decide +kernel
theorem dX1_takeStep_40 : decode cX1_takeStep 40 = .ok (.iconst 1, 1) := by decide +kernel
theorem dX1_takeStep_41 : decode cX1_takeStep 41 = .ok (.invokestatic 53, 3) := by decide +kernel
theorem dX1_takeStep_44 : decode cX1_takeStep 44 = .ok (.aload_n 0, 1) := by decide +kernel
theorem dX1_takeStep_45 : decode cX1_takeStep 45 = .ok (.iload_n 1, 1) := by decide +kernel
theorem dX1_takeStep_46 : decode cX1_takeStep 46 = .ok (.invokevirtual 128, 3) := by decide +kernel
theorem dX1_takeStep_49 : decode cX1_takeStep 49 = .ok (.ifCond .eq 7, 3) := by decide +kernel
theorem dX1_takeStep_52 : decode cX1_takeStep 52 = .ok (.iload_n 1, 1) := by decide +kernel
theorem dX1_takeStep_53 : decode cX1_takeStep 53 = .ok (.goto 5, 3) := by decide +kernel
theorem dX1_takeStep_56 : decode cX1_takeStep 56 = .ok (.ldc 94, 2) := by decide +kernel
theorem dX1_takeStep_58 : decode cX1_takeStep 58 = .ok (.ireturn, 1) := by decide +kernel
set_option maxRecDepth 20000 in
theorem ggX1_nextChoice_X3_at : GoodIn wsX1_nextChoice wsX3_at := goodIn_r _ [8] (by decide +kernel) (by decide +kernel)
set_option maxRecDepth 20000 in
theorem gX1_nextChoice_X3_at_n65 : GoodIn wsX1_nextChoice (wsX3_at) := ggX1_nextChoice_X3_at
set_option maxRecDepth 20000 in
theorem ggX1_nextChoice_J6_bitCount_0f7a4 : GoodIn wsX1_nextChoice wsJ6_bitCount_0f7a4 := goodIn_r _ [12, 13, 14, 15] (by decide +kernel) (by decide +kernel)
set_option maxRecDepth 20000 in
theorem gX1_nextChoice_J6_bitCount_0f7a4 : GoodIn wsX1_nextChoice (va_wsS RX1 131 yJ6_bitCount_0f7a4 wsJ6_bitCount_0f7a4) := goodIn_app (goodIn_of _ (by decide +kernel)) ggX1_nextChoice_J6_bitCount_0f7a4
theorem dX1_nextChoice_0 : decode cX1_nextChoice 0 = .ok (.aload_n 0, 1) := by decide +kernel
theorem dX1_nextChoice_1 : decode cX1_nextChoice 1 = .ok (.getfield 44, 3) := by decide +kernel
theorem dX1_nextChoice_4 : decode cX1_nextChoice 4 = .ok (.ifCond .le 21, 3) := by decide +kernel
theorem dX1_nextChoice_7 : decode cX1_nextChoice 7 = .ok (.aload_n 0, 1) := by decide +kernel
theorem dX1_nextChoice_8 : decode cX1_nextChoice 8 = .ok (.getfield 41, 3) := by decide +kernel
theorem dX1_nextChoice_11 : decode cX1_nextChoice 11 = .ok (.iconst 1, 1) := by decide +kernel
theorem dX1_nextChoice_12 : decode cX1_nextChoice 12 = .ok (.iadd, 1) := by decide +kernel
theorem dX1_nextChoice_13 : decode cX1_nextChoice 13 = .ok (.aload_n 0, 1) := by decide +kernel
theorem dX1_nextChoice_14 : decode cX1_nextChoice 14 = .ok (.getfield 44, 3) := by decide +kernel
theorem dX1_nextChoice_17 : decode cX1_nextChoice 17 = .ok (.irem, 1) := by decide +kernel
theorem dX1_nextChoice_18 : decode cX1_nextChoice 18 = .ok (.ifCond .ne 7, 3) := by decide +kernel
theorem dX1_nextChoice_21 : decode cX1_nextChoice 21 = .ok (.iconst 1, 1) := by decide +kernel
theorem dX1_nextChoice_22 : decode cX1_nextChoice 22 = .ok (.goto 4, 3) := by decide +kernel
theorem dX1_nextChoice_25 : decode cX1_nextChoice 25 = .ok (.iconst 0, 1) := by decide +kernel
theorem dX1_nextChoice_26 : decode cX1_nextChoice 26 = .ok (.istore_n 1, 1) := by decide +kernel
theorem dX1_nextChoice_27 : decode cX1_nextChoice 27 = .ok (.iconst (-1), 1) := by decide +kernel
theorem dX1_nextChoice_28 : decode cX1_nextChoice 28 = .ok (.istore_n 2, 1) := by decide +kernel
theorem dX1_nextChoice_29 : decode cX1_nextChoice 29 = .ok (.bipush 7, 2) := by decide +kernel
theorem dX1_nextChoice_31 : decode cX1_nextChoice 31 = .ok (.istore_n 3, 1) := by decide +kernel
theorem dX1_nextChoice_32 : decode cX1_nextChoice 32 = .ok (.iconst 0, 1) := by decide +kernel
theorem dX1_nextChoice_33 : decode cX1_nextChoice 33 = .ok (.istore 4, 2) := by decide +kernel
theorem dX1_nextChoice_35 : decode cX1_nextChoice 35 = .ok (.iload 4, 2) := by decide +kernel
theorem dX1_nextChoice_37 : decode cX1_nextChoice 37 = .ok (.aload_n 0, 1) := by decide +kernel
theorem dX1_nextChoice_38 : decode cX1_nextChoice 38 = .ok (.getfield 37, 3) := by decide +kernel
theorem dX1_nextChoice_41 : decode cX1_nextChoice 41 = .ok (.if_icmp .ge 54, 3) := by decide +kernel
theorem dX1_nextChoice_44 : decode cX1_nextChoice 44 = .ok (.aload_n 0, 1) := by decide +kernel
theorem dX1_nextChoice_45 : decode cX1_nextChoice 45 = .ok (.getfield 15, 3) := by decide +kernel
theorem dX1_nextChoice_48 : decode cX1_nextChoice 48 = .ok (.iload 4, 2) := by decide +kernel
theorem dX1_nextChoice_50 : decode cX1_nextChoice 50 = .ok (.invokestatic 65, 3) := by decide +kernel
theorem dX1_nextChoice_53 : decode cX1_nextChoice 53 = .ok (.invokestatic 131, 3) := by decide +kernel
theorem dX1_nextChoice_56 : decode cX1_nextChoice 56 = .ok (.istore 5, 2) := by decide +kernel
theorem dX1_nextChoice_58 : decode cX1_nextChoice 58 = .ok (.aload_n 0, 1) := by decide +kernel
theorem dX1_nextChoice_59 : decode cX1_nextChoice 59 = .ok (.getfield 18, 3) := by decide +kernel
theorem dX1_nextChoice_62 : decode cX1_nextChoice 62 = .ok (.iload 4, 2) := by decide +kernel
theorem dX1_nextChoice_64 : decode cX1_nextChoice 64 = .ok (.invokestatic 65, 3) := by decide +kernel
theorem dX1_nextChoice_67 : decode cX1_nextChoice 67 = .ok (.ifCond .ne 22, 3) := by decide +kernel
theorem dX1_nextChoice_70 : decode cX1_nextChoice 70 = .ok (.iload 5, 2) := by decide +kernel
theorem dX1_nextChoice_72 : decode cX1_nextChoice 72 = .ok (.iload_n 3, 1) := by decide +kernel
theorem dX1_nextChoice_73 : decode cX1_nextChoice 73 = .ok (.if_icmp .ge 16, 3) := by decide +kernel
theorem dX1_nextChoice_76 : decode cX1_nextChoice 76 = .ok (.iload_n 1, 1) := by decide +kernel
theorem dX1_nextChoice_77 : decode cX1_nextChoice 77 = .ok (.ifCond .eq 6, 3) := by decide +kernel
theorem dX1_nextChoice_80 : decode cX1_nextChoice 80 = .ok (.iload 4, 2) := by decide +kernel
theorem dX1_nextChoice_82 : decode cX1_nextChoice 82 = .ok (.ireturn, 1) := by decide +kernel
theorem dX1_nextChoice_83 : decode cX1_nextChoice 83 = .ok (.iload 4, 2) := by decide +kernel
theorem dX1_nextChoice_85 : decode cX1_nextChoice 85 = .ok (.istore_n 2, 1) := by decide +kernel
theorem dX1_nextChoice_86 : decode cX1_nextChoice 86 = .ok (.iload 5, 2) := by decide +kernel
theorem dX1_nextChoice_88 : decode cX1_nextChoice 88 = .ok (.istore_n 3, 1) := by decide +kernel
theorem dX1_nextChoice_89 : decode cX1_nextChoice 89 = .ok (.iinc 4 1, 3) := by decide +kernel
theorem dX1_nextChoice_92 : decode cX1_nextChoice 92 = .ok (.goto (-57), 3) := by decide +kernel
theorem dX1_nextChoice_95 : decode cX1_nextChoice 95 = .ok (.iload_n 2, 1) := by decide +kernel
theorem dX1_nextChoice_96 : decode cX1_nextChoice 96 = .ok (.ireturn, 1) := by decide +kernel
set_option maxRecDepth 20000 in
theorem ggX1_resolveWithDone_X3_at : GoodIn wsX1_resolveWithDone wsX3_at := goodIn_r _ [7] (by decide +kernel) (by decide +kernel)
set_option maxRecDepth 20000 in
theorem gX1_resolveWithDone_X3_at_n65 : GoodIn wsX1_resolveWithDone (wsX3_at) := ggX1_resolveWithDone_X3_at
set_option maxRecDepth 20000 in
theorem ggX1_resolveWithDone_X1_greatestOf : GoodIn wsX1_resolveWithDone wsX1_greatestOf := goodIn_r _ [12, 13, 5, 6, 7, 60, 61, 62, 63, 64, 65, 66, 67, 68, 69, 70, 71, 72] (by decide +kernel) (by decide +kernel)
set_option maxRecDepth 20000 in
theorem gX1_resolveWithDone_X1_greatestOf : GoodIn wsX1_resolveWithDone (wsV RX1 73 RX1 yX1_greatestOf wsX1_greatestOf) := goodIn_app (goodIn_of _ (by decide +kernel)) ggX1_resolveWithDone_X1_greatestOf
set_option maxRecDepth 20000 in
theorem ggX1_resolveWithDone_X1_isDropped : GoodIn wsX1_resolveWithDone wsX1_isDropped := goodIn_r _ [17, 3, 5, 6, 7, 60, 61, 62, 63, 64, 65, 66, 67, 68, 69, 70, 71, 72] (by decide +kernel) (by decide +kernel)
set_option maxRecDepth 20000 in
theorem gX1_resolveWithDone_X1_isDropped : GoodIn wsX1_resolveWithDone (wsV RX1 80 RX1 yX1_isDropped wsX1_isDropped) := goodIn_app (goodIn_of _ (by decide +kernel)) ggX1_resolveWithDone_X1_isDropped
set_option maxRecDepth 20000 in
theorem ggX1_resolveWithDone_X1_bring : GoodIn wsX1_resolveWithDone wsX1_bring := goodIn_r _ [21, 22, 23, 2, 4, 24, 6, 25, 26, 27, 28, 11, 29, 1, 14, 15, 16, 17, 3, 5, 7, 30, 31, 32, 33, 34, 35, 36, 37, 38, 39, 40, 41, 42, 43, 44, 45, 46, 47, 48, 49, 50, 51, 52, 53, 54, 55, 56, 57, 58, 59, 60, 61, 62, 63, 64, 65, 66, 67, 68, 69, 70, 71, 72] (by decide +kernel) (by decide +kernel)
set_option maxRecDepth 20000 in
theorem gX1_resolveWithDone_X1_bring : GoodIn wsX1_resolveWithDone (wsV RX1 136 RX1 yX1_bring wsX1_bring) := goodIn_app (goodIn_of _ (by decide +kernel)) ggX1_resolveWithDone_X1_bring
theorem dX1_resolveWithDone_0 : decode cX1_resolveWithDone 0 = .ok (.aload_n 0, 1) := by decide +kernel
theorem dX1_resolveWithDone_1 : decode cX1_resolveWithDone 1 = .ok (.aload_n 0, 1) := by decide +kernel
theorem dX1_resolveWithDone_2 : decode cX1_resolveWithDone 2 = .ok (.getfield 15, 3) := by decide +kernel
theorem dX1_resolveWithDone_5 : decode cX1_resolveWithDone 5 = .ok (.iload_n 1, 1) := by decide +kernel
theorem dX1_resolveWithDone_6 : decode cX1_resolveWithDone 6 = .ok (.invokestatic 65, 3) := by decide +kernel
theorem dX1_resolveWithDone_9 : decode cX1_resolveWithDone 9 = .ok (.invokevirtual 73, 3) := by decide +kernel
theorem dX1_resolveWithDone_12 : decode cX1_resolveWithDone 12 = .ok (.istore_n 2, 1) := by decide +kernel
theorem dX1_resolveWithDone_13 : decode cX1_resolveWithDone 13 = .ok (.iload_n 2, 1) := by decide +kernel
theorem dX1_resolveWithDone_14 : decode cX1_resolveWithDone 14 = .ok (.iconst 1, 1) := by decide +kernel
theorem dX1_resolveWithDone_15 : decode cX1_resolveWithDone 15 = .ok (.ixor, 1) := by decide +kernel
theorem dX1_resolveWithDone_16 : decode cX1_resolveWithDone 16 = .ok (.istore_n 3, 1) := by decide +kernel
theorem dX1_resolveWithDone_17 : decode cX1_resolveWithDone 17 = .ok (.iload_n 2, 1) := by decide +kernel
theorem dX1_resolveWithDone_18 : decode cX1_resolveWithDone 18 = .ok (.iload_n 3, 1) := by decide +kernel
theorem dX1_resolveWithDone_19 : decode cX1_resolveWithDone 19 = .ok (.if_icmp .ge 7, 3) := by decide +kernel
theorem dX1_resolveWithDone_22 : decode cX1_resolveWithDone 22 = .ok (.iconst 1, 1) := by decide +kernel
theorem dX1_resolveWithDone_23 : decode cX1_resolveWithDone 23 = .ok (.goto 4, 3) := by decide +kernel
theorem dX1_resolveWithDone_26 : decode cX1_resolveWithDone 26 = .ok (.iconst 0, 1) := by decide +kernel
theorem dX1_resolveWithDone_27 : decode cX1_resolveWithDone 27 = .ok (.istore 4, 2) := by decide +kernel
theorem dX1_resolveWithDone_29 : decode cX1_resolveWithDone 29 = .ok (.iconst 1, 1) := by decide +kernel
theorem dX1_resolveWithDone_30 : decode cX1_resolveWithDone 30 = .ok (.iload_n 2, 1) := by decide +kernel
theorem dX1_resolveWithDone_31 : decode cX1_resolveWithDone 31 = .ok (.ishl, 1) := by decide +kernel
theorem dX1_resolveWithDone_32 : decode cX1_resolveWithDone 32 = .ok (.iconst 1, 1) := by decide +kernel
theorem dX1_resolveWithDone_33 : decode cX1_resolveWithDone 33 = .ok (.iload_n 3, 1) := by decide +kernel
theorem dX1_resolveWithDone_34 : decode cX1_resolveWithDone 34 = .ok (.ishl, 1) := by decide +kernel
theorem dX1_resolveWithDone_35 : decode cX1_resolveWithDone 35 = .ok (.ior, 1) := by decide +kernel
theorem dX1_resolveWithDone_36 : decode cX1_resolveWithDone 36 = .ok (.istore 5, 2) := by decide +kernel
theorem dX1_resolveWithDone_38 : decode cX1_resolveWithDone 38 = .ok (.aload_n 0, 1) := by decide +kernel
theorem dX1_resolveWithDone_39 : decode cX1_resolveWithDone 39 = .ok (.getfield 37, 3) := by decide +kernel
theorem dX1_resolveWithDone_42 : decode cX1_resolveWithDone 42 = .ok (.istore 6, 2) := by decide +kernel
theorem dX1_resolveWithDone_44 : decode cX1_resolveWithDone 44 = .ok (.iconst 0, 1) := by decide +kernel
theorem dX1_resolveWithDone_45 : decode cX1_resolveWithDone 45 = .ok (.istore 7, 2) := by decide +kernel
theorem dX1_resolveWithDone_47 : decode cX1_resolveWithDone 47 = .ok (.iload 7, 2) := by decide +kernel
theorem dX1_resolveWithDone_49 : decode cX1_resolveWithDone 49 = .ok (.iload 6, 2) := by decide +kernel
theorem dX1_resolveWithDone_51 : decode cX1_resolveWithDone 51 = .ok (.if_icmp .ge 114, 3) := by decide +kernel
theorem dX1_resolveWithDone_54 : decode cX1_resolveWithDone 54 = .ok (.aload_n 0, 1) := by decide +kernel
