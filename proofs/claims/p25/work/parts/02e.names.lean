theorem dJ9_max_7cf53_1 : decode cJ9_max_7cf53 1 = .ok (.iload_n 1, 1) := by decide +kernel
theorem dJ9_max_7cf53_2 : decode cJ9_max_7cf53 2 = .ok (.if_icmp .lt 7, 3) := by decide +kernel
theorem dJ9_max_7cf53_5 : decode cJ9_max_7cf53 5 = .ok (.iload_n 0, 1) := by decide +kernel
theorem dJ9_max_7cf53_6 : decode cJ9_max_7cf53 6 = .ok (.goto 4, 3) := by decide +kernel
theorem dJ9_max_7cf53_9 : decode cJ9_max_7cf53 9 = .ok (.iload_n 1, 1) := by decide +kernel
theorem dJ9_max_7cf53_10 : decode cJ9_max_7cf53 10 = .ok (.ireturn, 1) := by decide +kernel
theorem dJ9_min_7cf53_0 : decode cJ9_min_7cf53 0 = .ok (.iload_n 0, 1) := by decide +kernel
theorem dJ9_min_7cf53_1 : decode cJ9_min_7cf53 1 = .ok (.iload_n 1, 1) := by decide +kernel
theorem dJ9_min_7cf53_2 : decode cJ9_min_7cf53 2 = .ok (.if_icmp .gt 7, 3) := by decide +kernel
theorem dJ9_min_7cf53_5 : decode cJ9_min_7cf53 5 = .ok (.iload_n 0, 1) := by decide +kernel
theorem dJ9_min_7cf53_6 : decode cJ9_min_7cf53 6 = .ok (.goto 4, 3) := by decide +kernel
theorem dJ9_min_7cf53_9 : decode cJ9_min_7cf53 9 = .ok (.iload_n 1, 1) := by decide +kernel
theorem dJ9_min_7cf53_10 : decode cJ9_min_7cf53 10 = .ok (.ireturn, 1) := by decide +kernel
theorem dL_lot_0 : decode cL_lot 0 = .ok (.iload_n 1, 1) := by decide +kernel
theorem dL_lot_1 : decode cL_lot 1 = .ok (.aload_n 0, 1) := by decide +kernel
theorem dL_lot_2 : decode cL_lot 2 = .ok (.arraylength, 1) := by decide +kernel
theorem dL_lot_3 : decode cL_lot 3 = .ok (.if_icmp .ge 9, 3) := by decide +kernel
theorem dL_lot_6 : decode cL_lot 6 = .ok (.aload_n 0, 1) := by decide +kernel
theorem dL_lot_7 : decode cL_lot 7 = .ok (.iload_n 1, 1) := by decide +kernel
theorem dL_lot_8 : decode cL_lot 8 = .ok (.iaload, 1) := by decide +kernel
theorem dL_lot_9 : decode cL_lot 9 = .ok (.goto 15, 3) := by decide +kernel
theorem dL_lot_12 : decode cL_lot 12 = .ok (.ldc 7, 2) := by decide +kernel
theorem dL_lot_14 : decode cL_lot 14 = .ok (.iload_n 1, 1) := by decide +kernel
theorem dL_lot_15 : decode cL_lot 15 = .ok (.sipush 2857, 3) := by decide +kernel
theorem dL_lot_18 : decode cL_lot 18 = .ok (.iadd, 1) := by decide +kernel
theorem dL_lot_19 : decode cL_lot 19 = .ok (.imul, 1) := by decide +kernel
theorem dL_lot_20 : decode cL_lot 20 = .ok (.sipush 2659, 3) := by decide +kernel
theorem dL_lot_23 : decode cL_lot 23 = .ok (.iadd, 1) := by decide +kernel
theorem dL_lot_24 : decode cL_lot 24 = .ok (.ireturn, 1) := by decide +kernel
theorem dL_low_0 : decode cL_low 0 = .ok (.iload_n 0, 1) := by decide +kernel
theorem dL_low_1 : decode cL_low 1 = .ok (.ldc 8, 2) := by decide +kernel
theorem dL_low_3 : decode cL_low 3 = .ok (.iand, 1) := by decide +kernel
theorem dL_low_4 : decode cL_low 4 = .ok (.iload_n 1, 1) := by decide +kernel
theorem dL_low_5 : decode cL_low 5 = .ok (.irem, 1) := by decide +kernel
theorem dL_low_6 : decode cL_low 6 = .ok (.ireturn, 1) := by decide +kernel
set_option maxRecDepth 20000 in
theorem ggL_digest_X3_count : GoodIn wsL_digest wsX3_count := goodIn_r _ [10, 11, 12, 13, 14, 15, 16, 17, 18, 19, 20, 21, 9, 22, 23, 24, 25, 26, 92, 93, 94, 95, 96, 97, 98, 99, 100, 101, 102, 103, 104, 105, 106, 107, 108, 109, 110, 111] (by decide +kernel) (by decide +kernel)
set_option maxRecDepth 20000 in
theorem gL_digest_X3_count : GoodIn wsL_digest (wsV RL 13 RX3 yX3_count wsX3_count) := goodIn_app (goodIn_of _ (by decide +kernel)) ggL_digest_X3_count
set_option maxRecDepth 20000 in
theorem ggL_digest_X3_clauseOf : GoodIn wsL_digest wsX3_clauseOf := goodIn_r _ [30, 11, 14, 31, 16, 32, 33, 19, 34, 21, 9, 22, 35, 36, 37, 26, 38, 39, 40, 41, 42, 43, 44, 45, 46, 47, 48, 49, 50, 51, 52, 53, 54, 55, 56, 20, 57, 58, 59, 60, 61, 62, 63, 92, 93, 94, 95, 96, 97, 98, 99, 100, 101, 102, 103, 104, 105, 106, 107] (by decide +kernel) (by decide +kernel)
set_option maxRecDepth 20000 in
theorem gL_digest_X3_clauseOf : GoodIn wsL_digest (wsV RL 19 RX3 yX3_clauseOf wsX3_clauseOf) := goodIn_app (goodIn_of _ (by decide +kernel)) ggL_digest_X3_clauseOf
set_option maxRecDepth 20000 in
theorem ggL_digest_X3_models : GoodIn wsL_digest wsX3_models := goodIn_r _ [67, 11, 68, 16, 69, 70, 19, 71, 72, 73, 74, 75, 21, 9, 22, 76, 77, 78, 79, 80, 81, 82, 62, 63, 83, 84, 85, 86, 87, 88, 89, 90, 91, 92, 93, 94, 95, 96, 97, 98, 99, 100, 101, 102, 103, 104, 105, 106, 107] (by decide +kernel) (by decide +kernel)
set_option maxRecDepth 20000 in
theorem gL_digest_X3_models : GoodIn wsL_digest (wsV RL 29 RX3 yX3_models wsX3_models) := goodIn_app (goodIn_of _ (by decide +kernel)) ggL_digest_X3_models
theorem dL_digest_0 : decode cL_digest 0 = .ok (.ldc2_w 9, 3) := by decide +kernel
theorem dL_digest_3 : decode cL_digest 3 = .ok (.lstore_n 1, 1) := by decide +kernel
theorem dL_digest_4 : decode cL_digest 4 = .ok (.iconst 0, 1) := by decide +kernel
theorem dL_digest_5 : decode cL_digest 5 = .ok (.istore_n 3, 1) := by decide +kernel
theorem dL_digest_6 : decode cL_digest 6 = .ok (.iload_n 3, 1) := by decide +kernel
theorem dL_digest_7 : decode cL_digest 7 = .ok (.bipush 16, 2) := by decide +kernel
theorem dL_digest_9 : decode cL_digest 9 = .ok (.if_icmp .ge 38, 3) := by decide +kernel
theorem dL_digest_12 : decode cL_digest 12 = .ok (.ldc2_w 11, 3) := by decide +kernel
theorem dL_digest_15 : decode cL_digest 15 = .ok (.lload_n 1, 1) := by decide +kernel
theorem dL_digest_16 : decode cL_digest 16 = .ok (.lmul, 1) := by decide +kernel
theorem dL_digest_17 : decode cL_digest 17 = .ok (.iload_n 3, 1) := by decide +kernel
theorem dL_digest_18 : decode cL_digest 18 = .ok (.bipush 8, 2) := by decide +kernel
theorem dL_digest_20 : decode cL_digest 20 = .ok (.if_icmp .eq 9, 3) := by decide +kernel
theorem dL_digest_23 : decode cL_digest 23 = .ok (.iload_n 3, 1) := by decide +kernel
theorem dL_digest_24 : decode cL_digest 24 = .ok (.bipush 9, 2) := by decide +kernel
theorem dL_digest_26 : decode cL_digest 26 = .ok (.if_icmp .ne 7, 3) := by decide +kernel
theorem dL_digest_29 : decode cL_digest 29 = .ok (.iconst 0, 1) := by decide +kernel
theorem dL_digest_30 : decode cL_digest 30 = .ok (.goto 8, 3) := by decide +kernel
theorem dL_digest_33 : decode cL_digest 33 = .ok (.aload_n 0, 1) := by decide +kernel
theorem dL_digest_34 : decode cL_digest 34 = .ok (.iload_n 3, 1) := by decide +kernel
theorem dL_digest_35 : decode cL_digest 35 = .ok (.invokevirtual 13, 3) := by decide +kernel
theorem dL_digest_38 : decode cL_digest 38 = .ok (.i2l, 1) := by decide +kernel
theorem dL_digest_39 : decode cL_digest 39 = .ok (.ladd, 1) := by decide +kernel
theorem dL_digest_40 : decode cL_digest 40 = .ok (.lstore_n 1, 1) := by decide +kernel
theorem dL_digest_41 : decode cL_digest 41 = .ok (.iinc 3 1, 3) := by decide +kernel
theorem dL_digest_44 : decode cL_digest 44 = .ok (.goto (-38), 3) := by decide +kernel
theorem dL_digest_47 : decode cL_digest 47 = .ok (.iconst 0, 1) := by decide +kernel
theorem dL_digest_48 : decode cL_digest 48 = .ok (.istore_n 3, 1) := by decide +kernel
theorem dL_digest_49 : decode cL_digest 49 = .ok (.iload_n 3, 1) := by decide +kernel
theorem dL_digest_50 : decode cL_digest 50 = .ok (.aload_n 0, 1) := by decide +kernel
theorem dL_digest_51 : decode cL_digest 51 = .ok (.iconst 0, 1) := by decide +kernel
theorem dL_digest_52 : decode cL_digest 52 = .ok (.invokevirtual 13, 3) := by decide +kernel
theorem dL_digest_55 : decode cL_digest 55 = .ok (.if_icmp .ge 59, 3) := by decide +kernel
theorem dL_digest_58 : decode cL_digest 58 = .ok (.ldc2_w 11, 3) := by decide +kernel
theorem dL_digest_61 : decode cL_digest 61 = .ok (.lload_n 1, 1) := by decide +kernel
theorem dL_digest_62 : decode cL_digest 62 = .ok (.lmul, 1) := by decide +kernel
theorem dL_digest_63 : decode cL_digest 63 = .ok (.aload_n 0, 1) := by decide +kernel
theorem dL_digest_64 : decode cL_digest 64 = .ok (.iload_n 3, 1) := by decide +kernel
theorem dL_digest_65 : decode cL_digest 65 = .ok (.iconst 0, 1) := by decide +kernel
theorem dL_digest_66 : decode cL_digest 66 = .ok (.invokevirtual 19, 3) := by decide +kernel
theorem dL_digest_69 : decode cL_digest 69 = .ok (.i2l, 1) := by decide +kernel
theorem dL_digest_70 : decode cL_digest 70 = .ok (.ladd, 1) := by decide +kernel
theorem dL_digest_71 : decode cL_digest 71 = .ok (.ldc2_w 23, 3) := by decide +kernel
theorem dL_digest_74 : decode cL_digest 74 = .ok (.aload_n 0, 1) := by decide +kernel
theorem dL_digest_75 : decode cL_digest 75 = .ok (.iload_n 3, 1) := by decide +kernel
theorem dL_digest_76 : decode cL_digest 76 = .ok (.iconst 1, 1) := by decide +kernel
theorem dL_digest_77 : decode cL_digest 77 = .ok (.invokevirtual 19, 3) := by decide +kernel
theorem dL_digest_80 : decode cL_digest 80 = .ok (.i2l, 1) := by decide +kernel
theorem dL_digest_81 : decode cL_digest 81 = .ok (.lmul, 1) := by decide +kernel
theorem dL_digest_82 : decode cL_digest 82 = .ok (.ladd, 1) := by decide +kernel
theorem dL_digest_83 : decode cL_digest 83 = .ok (.ldc2_w 25, 3) := by decide +kernel
theorem dL_digest_86 : decode cL_digest 86 = .ok (.aload_n 0, 1) := by decide +kernel
theorem dL_digest_87 : decode cL_digest 87 = .ok (.iload_n 3, 1) := by decide +kernel
theorem dL_digest_88 : decode cL_digest 88 = .ok (.iconst 3, 1) := by decide +kernel
theorem dL_digest_89 : decode cL_digest 89 = .ok (.invokevirtual 19, 3) := by decide +kernel
theorem dL_digest_92 : decode cL_digest 92 = .ok (.i2l, 1) := by decide +kernel
theorem dL_digest_93 : decode cL_digest 93 = .ok (.lmul, 1) := by decide +kernel
theorem dL_digest_94 : decode cL_digest 94 = .ok (.ladd, 1) := by decide +kernel
theorem dL_digest_95 : decode cL_digest 95 = .ok (.ldc2_w 27, 3) := by decide +kernel
theorem dL_digest_98 : decode cL_digest 98 = .ok (.aload_n 0, 1) := by decide +kernel
theorem dL_digest_99 : decode cL_digest 99 = .ok (.iload_n 3, 1) := by decide +kernel
theorem dL_digest_100 : decode cL_digest 100 = .ok (.iconst 4, 1) := by decide +kernel
theorem dL_digest_101 : decode cL_digest 101 = .ok (.invokevirtual 19, 3) := by decide +kernel
theorem dL_digest_104 : decode cL_digest 104 = .ok (.i2l, 1) := by decide +kernel
theorem dL_digest_105 : decode cL_digest 105 = .ok (.lmul, 1) := by decide +kernel
theorem dL_digest_106 : decode cL_digest 106 = .ok (.ladd, 1) := by decide +kernel
theorem dL_digest_107 : decode cL_digest 107 = .ok (.lstore_n 1, 1) := by decide +kernel
theorem dL_digest_108 : decode cL_digest 108 = .ok (.iinc 3 1, 3) := by decide +kernel
theorem dL_digest_111 : decode cL_digest 111 = .ok (.goto (-62), 3) := by decide +kernel
theorem dL_digest_114 : decode cL_digest 114 = .ok (.ldc2_w 11, 3) := by decide +kernel
theorem dL_digest_117 : decode cL_digest 117 = .ok (.lload_n 1, 1) := by decide +kernel
theorem dL_digest_118 : decode cL_digest 118 = .ok (.lmul, 1) := by decide +kernel
theorem dL_digest_119 : decode cL_digest 119 = .ok (.aload_n 0, 1) := by decide +kernel
theorem dL_digest_120 : decode cL_digest 120 = .ok (.invokevirtual 29, 3) := by decide +kernel
theorem dL_digest_123 : decode cL_digest 123 = .ok (.i2l, 1) := by decide +kernel
theorem dL_digest_124 : decode cL_digest 124 = .ok (.ladd, 1) := by decide +kernel
theorem dL_digest_125 : decode cL_digest 125 = .ok (.lreturn, 1) := by decide +kernel
set_option maxRecDepth 20000 in
theorem ggL_holds_X3_count : GoodIn wsL_holds wsX3_count := goodIn_r _ [7, 8, 9, 10, 11, 12, 13, 14, 15, 16, 17, 18, 6, 19, 20, 21, 22, 23, 124, 125, 126, 127, 128, 129, 130, 131, 132, 133, 134, 135, 136, 137, 138, 139, 140, 141, 142, 143] (by decide +kernel) (by decide +kernel)
set_option maxRecDepth 20000 in
theorem gL_holds_X3_count : GoodIn wsL_holds (wsV RL 13 RX3 yX3_count wsX3_count) := goodIn_app (goodIn_of _ (by decide +kernel)) ggL_holds_X3_count
set_option maxRecDepth 20000 in
theorem ggL_holds_X3_clauseOf : GoodIn wsL_holds wsX3_clauseOf := goodIn_r _ [27, 8, 11, 28, 13, 29, 30, 16, 31, 18, 6, 19, 32, 33, 34, 23, 35, 36, 37, 38, 39, 40, 41, 42, 43, 44, 45, 46, 47, 48, 49, 50, 51, 52, 53, 17, 54, 55, 56, 57, 58, 59, 60, 124, 125, 126, 127, 128, 129, 130, 131, 132, 133, 134, 135, 136, 137, 138, 139] (by decide +kernel) (by decide +kernel)
set_option maxRecDepth 20000 in
theorem gL_holds_X3_clauseOf : GoodIn wsL_holds (wsV RL 19 RX3 yX3_clauseOf wsX3_clauseOf) := goodIn_app (goodIn_of _ (by decide +kernel)) ggL_holds_X3_clauseOf
set_option maxRecDepth 20000 in
theorem ggL_holds_X3_follows : GoodIn wsL_holds wsX3_follows := goodIn_r _ [64, 11, 8, 65, 66, 13, 67, 68, 16, 69, 70, 71, 72, 73, 18, 6, 19, 74, 75, 76, 77, 78, 79, 80, 59, 60, 81, 82, 83, 84, 85, 86, 87, 124, 125, 126, 127, 128, 129, 130, 131, 132, 133, 134, 135, 136, 137, 138, 139] (by decide +kernel) (by decide +kernel)
set_option maxRecDepth 20000 in
theorem gL_holds_X3_follows : GoodIn wsL_holds (wsV RL 33 RX3 yX3_follows wsX3_follows) := goodIn_app (goodIn_of _ (by decide +kernel)) ggL_holds_X3_follows
set_option maxRecDepth 20000 in
theorem ggL_holds_X3_refutation : GoodIn wsL_holds wsX3_refutation := goodIn_r _ [91, 8, 92, 13, 93, 94, 16, 49, 18, 6, 19, 35, 36, 37, 38, 124, 125, 126, 127, 128, 129, 130, 131, 132, 133, 134, 135, 136, 137, 138, 139] (by decide +kernel) (by decide +kernel)
set_option maxRecDepth 20000 in
theorem gL_holds_X3_refutation : GoodIn wsL_holds (wsV RL 39 RX3 yX3_refutation wsX3_refutation) := goodIn_app (goodIn_of _ (by decide +kernel)) ggL_holds_X3_refutation
set_option maxRecDepth 20000 in
theorem ggL_holds_X3_tree : GoodIn wsL_holds wsX3_tree := goodIn_r _ [98, 8, 99, 28, 13, 29, 30, 16, 100, 101, 102, 73, 103, 74, 6, 75, 59, 60, 18, 19, 124, 125, 126, 127, 128, 129, 130, 131, 132, 133, 134, 135, 136, 137, 138, 139] (by decide +kernel) (by decide +kernel)
set_option maxRecDepth 20000 in
theorem gL_holds_X3_tree : GoodIn wsL_holds (wsV RL 42 RX3 yX3_tree wsX3_tree) := goodIn_app (goodIn_of _ (by decide +kernel)) ggL_holds_X3_tree
set_option maxRecDepth 20000 in
theorem ggL_holds_X3_models : GoodIn wsL_holds wsX3_models := goodIn_r _ [107, 8, 66, 13, 67, 68, 16, 69, 70, 71, 72, 73, 18, 6, 19, 74, 75, 76, 77, 78, 79, 80, 59, 60, 81, 82, 108, 109, 110, 111, 112, 113, 114, 124, 125, 126, 127, 128, 129, 130, 131, 132, 133, 134, 135, 136, 137, 138, 139] (by decide +kernel) (by decide +kernel)
set_option maxRecDepth 20000 in
theorem gL_holds_X3_models : GoodIn wsL_holds (wsV RL 29 RX3 yX3_models wsX3_models) := goodIn_app (goodIn_of _ (by decide +kernel)) ggL_holds_X3_models
set_option maxRecDepth 20000 in
theorem ggL_holds_X3_core : GoodIn wsL_holds wsX3_core := goodIn_r _ [118, 8, 119, 66, 13, 67, 68, 16, 69, 70, 71, 72, 73, 18, 6, 19, 74, 75, 76, 77, 78, 79, 80, 59, 60, 81, 82, 120, 121, 122, 123, 124, 125, 126, 127, 128, 129, 130, 131, 132, 133, 134, 135, 136, 137, 138, 139] (by decide +kernel) (by decide +kernel)
set_option maxRecDepth 20000 in
theorem gL_holds_X3_core : GoodIn wsL_holds (wsV RL 46 RX3 yX3_core wsX3_core) := goodIn_app (goodIn_of _ (by decide +kernel)) ggL_holds_X3_core
theorem dL_holds_0 : decode cL_holds 0 = .ok (.aload_n 0, 1) := by decide +kernel
theorem dL_holds_1 : decode cL_holds 1 = .ok (.iconst 0, 1) := by decide +kernel
theorem dL_holds_2 : decode cL_holds 2 = .ok (.invokevirtual 13, 3) := by decide +kernel
theorem dL_holds_5 : decode cL_holds 5 = .ok (.istore_n 1, 1) := by decide +kernel
theorem dL_holds_6 : decode cL_holds 6 = .ok (.iconst 0, 1) := by decide +kernel
theorem dL_holds_7 : decode cL_holds 7 = .ok (.istore_n 2, 1) := by decide +kernel
theorem dL_holds_8 : decode cL_holds 8 = .ok (.iconst 0, 1) := by decide +kernel
theorem dL_holds_9 : decode cL_holds 9 = .ok (.istore_n 3, 1) := by decide +kernel
theorem dL_holds_10 : decode cL_holds 10 = .ok (.iload_n 3, 1) := by decide +kernel
theorem dL_holds_11 : decode cL_holds 11 = .ok (.iload_n 1, 1) := by decide +kernel
theorem dL_holds_12 : decode cL_holds 12 = .ok (.if_icmp .ge 320, 3) := by decide +kernel
theorem dL_holds_15 : decode cL_holds 15 = .ok (.aload_n 0, 1) := by decide +kernel
theorem dL_holds_16 : decode cL_holds 16 = .ok (.iload_n 3, 1) := by decide +kernel
theorem dL_holds_17 : decode cL_holds 17 = .ok (.iconst 0, 1) := by decide +kernel
theorem dL_holds_18 : decode cL_holds 18 = .ok (.invokevirtual 19, 3) := by decide +kernel
theorem dL_holds_21 : decode cL_holds 21 = .ok (.istore 4, 2) := by decide +kernel
theorem dL_holds_23 : decode cL_holds 23 = .ok (.aload_n 0, 1) := by decide +kernel
theorem dL_holds_24 : decode cL_holds 24 = .ok (.iload_n 3, 1) := by decide +kernel
theorem dL_holds_25 : decode cL_holds 25 = .ok (.iconst 3, 1) := by decide +kernel
theorem dL_holds_26 : decode cL_holds 26 = .ok (.invokevirtual 19, 3) := by decide +kernel
theorem dL_holds_29 : decode cL_holds 29 = .ok (.istore 5, 2) := by decide +kernel
theorem dL_holds_31 : decode cL_holds 31 = .ok (.aload_n 0, 1) := by decide +kernel
theorem dL_holds_32 : decode cL_holds 32 = .ok (.iload_n 3, 1) := by decide +kernel
theorem dL_holds_33 : decode cL_holds 33 = .ok (.iconst 4, 1) := by decide +kernel
theorem dL_holds_34 : decode cL_holds 34 = .ok (.invokevirtual 19, 3) := by decide +kernel
theorem dL_holds_37 : decode cL_holds 37 = .ok (.istore 6, 2) := by decide +kernel
theorem dL_holds_39 : decode cL_holds 39 = .ok (.aload_n 0, 1) := by decide +kernel
theorem dL_holds_40 : decode cL_holds 40 = .ok (.iload_n 3, 1) := by decide +kernel
theorem dL_holds_41 : decode cL_holds 41 = .ok (.bipush 8, 2) := by decide +kernel
theorem dL_holds_43 : decode cL_holds 43 = .ok (.invokevirtual 19, 3) := by decide +kernel
theorem dL_holds_46 : decode cL_holds 46 = .ok (.istore 7, 2) := by decide +kernel
theorem dL_holds_48 : decode cL_holds 48 = .ok (.iload_n 2, 1) := by decide +kernel
theorem dL_holds_49 : decode cL_holds 49 = .ok (.aload_n 0, 1) := by decide +kernel
theorem dL_holds_50 : decode cL_holds 50 = .ok (.iload_n 3, 1) := by decide +kernel
theorem dL_holds_51 : decode cL_holds 51 = .ok (.iconst 1, 1) := by decide +kernel
theorem dL_holds_52 : decode cL_holds 52 = .ok (.invokevirtual 19, 3) := by decide +kernel
theorem dL_holds_55 : decode cL_holds 55 = .ok (.iconst 2, 1) := by decide +kernel
theorem dL_holds_56 : decode cL_holds 56 = .ok (.if_icmp .ge 7, 3) := by decide +kernel
theorem dL_holds_59 : decode cL_holds 59 = .ok (.iconst 1, 1) := by decide +kernel
theorem dL_holds_60 : decode cL_holds 60 = .ok (.goto 4, 3) := by decide +kernel
theorem dL_holds_63 : decode cL_holds 63 = .ok (.iconst 0, 1) := by decide +kernel
theorem dL_holds_64 : decode cL_holds 64 = .ok (.iadd, 1) := by decide +kernel
theorem dL_holds_65 : decode cL_holds 65 = .ok (.istore_n 2, 1) := by decide +kernel
theorem dL_holds_66 : decode cL_holds 66 = .ok (.iload 4, 2) := by decide +kernel
theorem dL_holds_68 : decode cL_holds 68 = .ok (.iload 4, 2) := by decide +kernel
theorem dL_holds_70 : decode cL_holds 70 = .ok (.iconst 1, 1) := by decide +kernel
theorem dL_holds_71 : decode cL_holds 71 = .ok (.ishr, 1) := by decide +kernel
theorem dL_holds_72 : decode cL_holds 72 = .ok (.iand, 1) := by decide +kernel
theorem dL_holds_73 : decode cL_holds 73 = .ok (.sipush 1365, 3) := by decide +kernel
theorem dL_holds_76 : decode cL_holds 76 = .ok (.iand, 1) := by decide +kernel
theorem dL_holds_77 : decode cL_holds 77 = .ok (.ifCond .ne 106, 3) := by decide +kernel
theorem dL_holds_80 : decode cL_holds 80 = .ok (.aload_n 0, 1) := by decide +kernel
theorem dL_holds_81 : decode cL_holds 81 = .ok (.iload 4, 2) := by decide +kernel
theorem dL_holds_83 : decode cL_holds 83 = .ok (.invokevirtual 33, 3) := by decide +kernel
theorem dL_holds_86 : decode cL_holds 86 = .ok (.iconst 1, 1) := by decide +kernel
theorem dL_holds_87 : decode cL_holds 87 = .ok (.if_icmp .ne 96, 3) := by decide +kernel
theorem dL_holds_90 : decode cL_holds 90 = .ok (.iload 5, 2) := by decide +kernel
theorem dL_holds_92 : decode cL_holds 92 = .ok (.ldc 38, 2) := by decide +kernel
theorem dL_holds_94 : decode cL_holds 94 = .ok (.if_icmp .ne 7, 3) := by decide +kernel
theorem dL_holds_97 : decode cL_holds 97 = .ok (.iconst 1, 1) := by decide +kernel
theorem dL_holds_98 : decode cL_holds 98 = .ok (.goto 4, 3) := by decide +kernel
theorem dL_holds_101 : decode cL_holds 101 = .ok (.iconst 0, 1) := by decide +kernel
theorem dL_holds_102 : decode cL_holds 102 = .ok (.iload 7, 2) := by decide +kernel
theorem dL_holds_104 : decode cL_holds 104 = .ok (.ifCond .ne 7, 3) := by decide +kernel
theorem dL_holds_107 : decode cL_holds 107 = .ok (.iconst 1, 1) := by decide +kernel
theorem dL_holds_108 : decode cL_holds 108 = .ok (.goto 4, 3) := by decide +kernel
theorem dL_holds_111 : decode cL_holds 111 = .ok (.iconst 0, 1) := by decide +kernel
theorem dL_holds_112 : decode cL_holds 112 = .ok (.if_icmp .ne 71, 3) := by decide +kernel
theorem dL_holds_115 : decode cL_holds 115 = .ok (.iload 5, 2) := by decide +kernel
theorem dL_holds_117 : decode cL_holds 117 = .ok (.ldc 38, 2) := by decide +kernel
theorem dL_holds_119 : decode cL_holds 119 = .ok (.if_icmp .ne 7, 3) := by decide +kernel
theorem dL_holds_122 : decode cL_holds 122 = .ok (.iconst 1, 1) := by decide +kernel
theorem dL_holds_123 : decode cL_holds 123 = .ok (.goto 4, 3) := by decide +kernel
theorem dL_holds_126 : decode cL_holds 126 = .ok (.iconst 0, 1) := by decide +kernel
theorem dL_holds_127 : decode cL_holds 127 = .ok (.iload 6, 2) := by decide +kernel
theorem dL_holds_129 : decode cL_holds 129 = .ok (.ldc 38, 2) := by decide +kernel
theorem dL_holds_131 : decode cL_holds 131 = .ok (.if_icmp .ne 7, 3) := by decide +kernel
theorem dL_holds_134 : decode cL_holds 134 = .ok (.iconst 1, 1) := by decide +kernel
theorem dL_holds_135 : decode cL_holds 135 = .ok (.goto 4, 3) := by decide +kernel
theorem dL_holds_138 : decode cL_holds 138 = .ok (.iconst 0, 1) := by decide +kernel
theorem dL_holds_139 : decode cL_holds 139 = .ok (.if_icmp .ne 44, 3) := by decide +kernel
theorem dL_holds_142 : decode cL_holds 142 = .ok (.iload 4, 2) := by decide +kernel
theorem dL_holds_144 : decode cL_holds 144 = .ok (.ifCond .ne 7, 3) := by decide +kernel
theorem dL_holds_147 : decode cL_holds 147 = .ok (.iconst 1, 1) := by decide +kernel
theorem dL_holds_148 : decode cL_holds 148 = .ok (.goto 4, 3) := by decide +kernel
theorem dL_holds_151 : decode cL_holds 151 = .ok (.iconst 0, 1) := by decide +kernel
theorem dL_holds_152 : decode cL_holds 152 = .ok (.aload_n 0, 1) := by decide +kernel
theorem dL_holds_153 : decode cL_holds 153 = .ok (.iload_n 3, 1) := by decide +kernel
theorem dL_holds_154 : decode cL_holds 154 = .ok (.iconst 2, 1) := by decide +kernel
theorem dL_holds_155 : decode cL_holds 155 = .ok (.invokevirtual 19, 3) := by decide +kernel
theorem dL_holds_158 : decode cL_holds 158 = .ok (.ldc 38, 2) := by decide +kernel
theorem dL_holds_160 : decode cL_holds 160 = .ok (.if_icmp .ne 7, 3) := by decide +kernel
theorem dL_holds_163 : decode cL_holds 163 = .ok (.iconst 1, 1) := by decide +kernel
theorem dL_holds_164 : decode cL_holds 164 = .ok (.goto 4, 3) := by decide +kernel
theorem dL_holds_167 : decode cL_holds 167 = .ok (.iconst 0, 1) := by decide +kernel
theorem dL_holds_168 : decode cL_holds 168 = .ok (.if_icmp .ne 15, 3) := by decide +kernel
theorem dL_holds_171 : decode cL_holds 171 = .ok (.iload 4, 2) := by decide +kernel
theorem dL_holds_173 : decode cL_holds 173 = .ok (.ifCond .ne 12, 3) := by decide +kernel
theorem dL_holds_176 : decode cL_holds 176 = .ok (.aload_n 0, 1) := by decide +kernel
theorem dL_holds_177 : decode cL_holds 177 = .ok (.invokevirtual 39, 3) := by decide +kernel
theorem dL_holds_180 : decode cL_holds 180 = .ok (.ifCond .ge 5, 3) := by decide +kernel
theorem dL_holds_183 : decode cL_holds 183 = .ok (.iconst 0, 1) := by decide +kernel
theorem dL_holds_184 : decode cL_holds 184 = .ok (.ireturn, 1) := by decide +kernel
theorem dL_holds_185 : decode cL_holds 185 = .ok (.iload 5, 2) := by decide +kernel
theorem dL_holds_187 : decode cL_holds 187 = .ok (.ldc 38, 2) := by decide +kernel
theorem dL_holds_189 : decode cL_holds 189 = .ok (.if_icmp .eq 137, 3) := by decide +kernel
theorem dL_holds_192 : decode cL_holds 192 = .ok (.aload_n 0, 1) := by decide +kernel
theorem dL_holds_193 : decode cL_holds 193 = .ok (.iload_n 3, 1) := by decide +kernel
theorem dL_holds_194 : decode cL_holds 194 = .ok (.iconst 5, 1) := by decide +kernel
theorem dL_holds_195 : decode cL_holds 195 = .ok (.invokevirtual 19, 3) := by decide +kernel
theorem dL_holds_198 : decode cL_holds 198 = .ok (.istore 8, 2) := by decide +kernel
theorem dL_holds_200 : decode cL_holds 200 = .ok (.aload_n 0, 1) := by decide +kernel
theorem dL_holds_201 : decode cL_holds 201 = .ok (.iload 5, 2) := by decide +kernel
theorem dL_holds_203 : decode cL_holds 203 = .ok (.iconst 0, 1) := by decide +kernel
theorem dL_holds_204 : decode cL_holds 204 = .ok (.invokevirtual 19, 3) := by decide +kernel
theorem dL_holds_207 : decode cL_holds 207 = .ok (.aload_n 0, 1) := by decide +kernel
theorem dL_holds_208 : decode cL_holds 208 = .ok (.iload 6, 2) := by decide +kernel
theorem dL_holds_210 : decode cL_holds 210 = .ok (.iconst 0, 1) := by decide +kernel
theorem dL_holds_211 : decode cL_holds 211 = .ok (.invokevirtual 19, 3) := by decide +kernel
theorem dL_holds_214 : decode cL_holds 214 = .ok (.ior, 1) := by decide +kernel
theorem dL_holds_215 : decode cL_holds 215 = .ok (.istore 9, 2) := by decide +kernel
theorem dL_holds_217 : decode cL_holds 217 = .ok (.aload_n 0, 1) := by decide +kernel
theorem dL_holds_218 : decode cL_holds 218 = .ok (.iload 5, 2) := by decide +kernel
theorem dL_holds_220 : decode cL_holds 220 = .ok (.invokevirtual 42, 3) := by decide +kernel
theorem dL_holds_223 : decode cL_holds 223 = .ok (.aload_n 0, 1) := by decide +kernel
theorem dL_holds_224 : decode cL_holds 224 = .ok (.iload 6, 2) := by decide +kernel
theorem dL_holds_226 : decode cL_holds 226 = .ok (.invokevirtual 42, 3) := by decide +kernel
theorem dL_holds_229 : decode cL_holds 229 = .ok (.lor, 1) := by decide +kernel
theorem dL_holds_230 : decode cL_holds 230 = .ok (.lconst 1, 1) := by decide +kernel
theorem dL_holds_231 : decode cL_holds 231 = .ok (.iload_n 3, 1) := by decide +kernel
theorem dL_holds_232 : decode cL_holds 232 = .ok (.lshl, 1) := by decide +kernel
theorem dL_holds_233 : decode cL_holds 233 = .ok (.lor, 1) := by decide +kernel
theorem dL_holds_234 : decode cL_holds 234 = .ok (.lstore 10, 2) := by decide +kernel
theorem dL_holds_236 : decode cL_holds 236 = .ok (.iload 5, 2) := by decide +kernel
theorem dL_holds_238 : decode cL_holds 238 = .ok (.iload_n 3, 1) := by decide +kernel
theorem dL_holds_239 : decode cL_holds 239 = .ok (.if_icmp .ge 85, 3) := by decide +kernel
theorem dL_holds_242 : decode cL_holds 242 = .ok (.iload 6, 2) := by decide +kernel
theorem dL_holds_244 : decode cL_holds 244 = .ok (.iload_n 3, 1) := by decide +kernel
theorem dL_holds_245 : decode cL_holds 245 = .ok (.if_icmp .ge 79, 3) := by decide +kernel
theorem dL_holds_248 : decode cL_holds 248 = .ok (.iload 9, 2) := by decide +kernel
theorem dL_holds_250 : decode cL_holds 250 = .ok (.iconst 3, 1) := by decide +kernel
theorem dL_holds_251 : decode cL_holds 251 = .ok (.iconst 2, 1) := by decide +kernel
theorem dL_holds_252 : decode cL_holds 252 = .ok (.iload 8, 2) := by decide +kernel
theorem dL_holds_254 : decode cL_holds 254 = .ok (.imul, 1) := by decide +kernel
theorem dL_holds_255 : decode cL_holds 255 = .ok (.ishl, 1) := by decide +kernel
theorem dL_holds_256 : decode cL_holds 256 = .ok (.iconst (-1), 1) := by decide +kernel
theorem dL_holds_257 : decode cL_holds 257 = .ok (.ixor, 1) := by decide +kernel
theorem dL_holds_258 : decode cL_holds 258 = .ok (.iand, 1) := by decide +kernel
theorem dL_holds_259 : decode cL_holds 259 = .ok (.iload 4, 2) := by decide +kernel
theorem dL_holds_261 : decode cL_holds 261 = .ok (.if_icmp .ne 63, 3) := by decide +kernel
theorem dL_holds_264 : decode cL_holds 264 = .ok (.aload_n 0, 1) := by decide +kernel
theorem dL_holds_265 : decode cL_holds 265 = .ok (.iload 5, 2) := by decide +kernel
theorem dL_holds_267 : decode cL_holds 267 = .ok (.iconst 0, 1) := by decide +kernel
theorem dL_holds_268 : decode cL_holds 268 = .ok (.invokevirtual 19, 3) := by decide +kernel
theorem dL_holds_271 : decode cL_holds 271 = .ok (.iconst 2, 1) := by decide +kernel
theorem dL_holds_272 : decode cL_holds 272 = .ok (.iload 8, 2) := by decide +kernel
theorem dL_holds_274 : decode cL_holds 274 = .ok (.imul, 1) := by decide +kernel
theorem dL_holds_275 : decode cL_holds 275 = .ok (.ishr, 1) := by decide +kernel
theorem dL_holds_276 : decode cL_holds 276 = .ok (.iconst 3, 1) := by decide +kernel
theorem dL_holds_277 : decode cL_holds 277 = .ok (.iand, 1) := by decide +kernel
theorem dL_holds_278 : decode cL_holds 278 = .ok (.iconst 1, 1) := by decide +kernel
theorem dL_holds_279 : decode cL_holds 279 = .ok (.if_icmp .ne 45, 3) := by decide +kernel
theorem dL_holds_282 : decode cL_holds 282 = .ok (.aload_n 0, 1) := by decide +kernel
theorem dL_holds_283 : decode cL_holds 283 = .ok (.iload 6, 2) := by decide +kernel
theorem dL_holds_285 : decode cL_holds 285 = .ok (.iconst 0, 1) := by decide +kernel
theorem dL_holds_286 : decode cL_holds 286 = .ok (.invokevirtual 19, 3) := by decide +kernel
theorem dL_holds_289 : decode cL_holds 289 = .ok (.iconst 2, 1) := by decide +kernel
theorem dL_holds_290 : decode cL_holds 290 = .ok (.iload 8, 2) := by decide +kernel
theorem dL_holds_292 : decode cL_holds 292 = .ok (.imul, 1) := by decide +kernel
theorem dL_holds_293 : decode cL_holds 293 = .ok (.ishr, 1) := by decide +kernel
theorem dL_holds_294 : decode cL_holds 294 = .ok (.iconst 3, 1) := by decide +kernel
theorem dL_holds_295 : decode cL_holds 295 = .ok (.iand, 1) := by decide +kernel
theorem dL_holds_296 : decode cL_holds 296 = .ok (.iconst 2, 1) := by decide +kernel
theorem dL_holds_297 : decode cL_holds 297 = .ok (.if_icmp .ne 27, 3) := by decide +kernel
theorem dL_holds_300 : decode cL_holds 300 = .ok (.aload_n 0, 1) := by decide +kernel
theorem dL_holds_301 : decode cL_holds 301 = .ok (.iload_n 3, 1) := by decide +kernel
theorem dL_holds_302 : decode cL_holds 302 = .ok (.invokevirtual 42, 3) := by decide +kernel
theorem dL_holds_305 : decode cL_holds 305 = .ok (.lload 10, 2) := by decide +kernel
theorem dL_holds_307 : decode cL_holds 307 = .ok (.lcmp, 1) := by decide +kernel
theorem dL_holds_308 : decode cL_holds 308 = .ok (.ifCond .ne 16, 3) := by decide +kernel
theorem dL_holds_311 : decode cL_holds 311 = .ok (.aload_n 0, 1) := by decide +kernel
theorem dL_holds_312 : decode cL_holds 312 = .ok (.iload 5, 2) := by decide +kernel
theorem dL_holds_314 : decode cL_holds 314 = .ok (.bipush 8, 2) := by decide +kernel
theorem dL_holds_316 : decode cL_holds 316 = .ok (.invokevirtual 19, 3) := by decide +kernel
theorem dL_holds_319 : decode cL_holds 319 = .ok (.iload 7, 2) := by decide +kernel
theorem dL_holds_321 : decode cL_holds 321 = .ok (.if_icmp .lt 5, 3) := by decide +kernel
theorem dL_holds_324 : decode cL_holds 324 = .ok (.iconst 0, 1) := by decide +kernel
theorem dL_holds_325 : decode cL_holds 325 = .ok (.ireturn, 1) := by decide +kernel
theorem dL_holds_326 : decode cL_holds 326 = .ok (.iinc 3 1, 3) := by decide +kernel
theorem dL_holds_329 : decode cL_holds 329 = .ok (.goto (-319), 3) := by decide +kernel
theorem dL_holds_332 : decode cL_holds 332 = .ok (.aload_n 0, 1) := by decide +kernel
theorem dL_holds_333 : decode cL_holds 333 = .ok (.iconst 1, 1) := by decide +kernel
theorem dL_holds_334 : decode cL_holds 334 = .ok (.invokevirtual 13, 3) := by decide +kernel
theorem dL_holds_337 : decode cL_holds 337 = .ok (.ifCond .gt 17, 3) := by decide +kernel
theorem dL_holds_340 : decode cL_holds 340 = .ok (.aload_n 0, 1) := by decide +kernel
theorem dL_holds_341 : decode cL_holds 341 = .ok (.invokevirtual 39, 3) := by decide +kernel
theorem dL_holds_344 : decode cL_holds 344 = .ok (.ifCond .ge 10, 3) := by decide +kernel
theorem dL_holds_347 : decode cL_holds 347 = .ok (.aload_n 0, 1) := by decide +kernel
theorem dL_holds_348 : decode cL_holds 348 = .ok (.invokevirtual 29, 3) := by decide +kernel
theorem dL_holds_351 : decode cL_holds 351 = .ok (.ifCond .le 7, 3) := by decide +kernel
theorem dL_holds_354 : decode cL_holds 354 = .ok (.iconst 1, 1) := by decide +kernel
theorem dL_holds_355 : decode cL_holds 355 = .ok (.goto 4, 3) := by decide +kernel
theorem dL_holds_358 : decode cL_holds 358 = .ok (.iconst 0, 1) := by decide +kernel
theorem dL_holds_359 : decode cL_holds 359 = .ok (.istore_n 3, 1) := by decide +kernel
theorem dL_holds_360 : decode cL_holds 360 = .ok (.iload_n 3, 1) := by decide +kernel
theorem dL_holds_361 : decode cL_holds 361 = .ok (.ifCond .eq 78, 3) := by decide +kernel
theorem dL_holds_364 : decode cL_holds 364 = .ok (.iload_n 2, 1) := by decide +kernel
theorem dL_holds_365 : decode cL_holds 365 = .ok (.aload_n 0, 1) := by decide +kernel
theorem dL_holds_366 : decode cL_holds 366 = .ok (.iconst 1, 1) := by decide +kernel
theorem dL_holds_367 : decode cL_holds 367 = .ok (.invokevirtual 13, 3) := by decide +kernel
theorem dL_holds_370 : decode cL_holds 370 = .ok (.aload_n 0, 1) := by decide +kernel
theorem dL_holds_371 : decode cL_holds 371 = .ok (.iconst 2, 1) := by decide +kernel
theorem dL_holds_372 : decode cL_holds 372 = .ok (.invokevirtual 13, 3) := by decide +kernel
theorem dL_holds_375 : decode cL_holds 375 = .ok (.iadd, 1) := by decide +kernel
theorem dL_holds_376 : decode cL_holds 376 = .ok (.if_icmp .ne 63, 3) := by decide +kernel
theorem dL_holds_379 : decode cL_holds 379 = .ok (.iload_n 1, 1) := by decide +kernel
theorem dL_holds_380 : decode cL_holds 380 = .ok (.iload_n 2, 1) := by decide +kernel
theorem dL_holds_381 : decode cL_holds 381 = .ok (.aload_n 0, 1) := by decide +kernel
theorem dL_holds_382 : decode cL_holds 382 = .ok (.iconst 3, 1) := by decide +kernel
theorem dL_holds_383 : decode cL_holds 383 = .ok (.invokevirtual 13, 3) := by decide +kernel
theorem dL_holds_386 : decode cL_holds 386 = .ok (.iadd, 1) := by decide +kernel
theorem dL_holds_387 : decode cL_holds 387 = .ok (.if_icmp .ne 52, 3) := by decide +kernel
theorem dL_holds_390 : decode cL_holds 390 = .ok (.aload_n 0, 1) := by decide +kernel
theorem dL_holds_391 : decode cL_holds 391 = .ok (.invokevirtual 46, 3) := by decide +kernel
theorem dL_holds_394 : decode cL_holds 394 = .ok (.ldc2_w 50, 3) := by decide +kernel
theorem dL_holds_397 : decode cL_holds 397 = .ok (.lcmp, 1) := by decide +kernel
theorem dL_holds_398 : decode cL_holds 398 = .ok (.ifCond .ne 7, 3) := by decide +kernel
theorem dL_holds_401 : decode cL_holds 401 = .ok (.iconst 1, 1) := by decide +kernel
theorem dL_holds_402 : decode cL_holds 402 = .ok (.goto 4, 3) := by decide +kernel
theorem dL_holds_405 : decode cL_holds 405 = .ok (.iconst 0, 1) := by decide +kernel
theorem dL_holds_406 : decode cL_holds 406 = .ok (.aload_n 0, 1) := by decide +kernel
theorem dL_holds_407 : decode cL_holds 407 = .ok (.invokevirtual 29, 3) := by decide +kernel
theorem dL_holds_410 : decode cL_holds 410 = .ok (.ifCond .le 7, 3) := by decide +kernel
theorem dL_holds_413 : decode cL_holds 413 = .ok (.iconst 1, 1) := by decide +kernel
theorem dL_holds_414 : decode cL_holds 414 = .ok (.goto 4, 3) := by decide +kernel
theorem dL_holds_417 : decode cL_holds 417 = .ok (.iconst 0, 1) := by decide +kernel
theorem dL_holds_418 : decode cL_holds 418 = .ok (.if_icmp .ne 21, 3) := by decide +kernel
theorem dL_holds_421 : decode cL_holds 421 = .ok (.aload_n 0, 1) := by decide +kernel
theorem dL_holds_422 : decode cL_holds 422 = .ok (.invokevirtual 39, 3) := by decide +kernel
theorem dL_holds_425 : decode cL_holds 425 = .ok (.ifCond .lt 10, 3) := by decide +kernel
theorem dL_holds_428 : decode cL_holds 428 = .ok (.aload_n 0, 1) := by decide +kernel
theorem dL_holds_429 : decode cL_holds 429 = .ok (.invokevirtual 29, 3) := by decide +kernel
theorem dL_holds_432 : decode cL_holds 432 = .ok (.ifCond .ne 7, 3) := by decide +kernel
theorem dL_holds_435 : decode cL_holds 435 = .ok (.iconst 1, 1) := by decide +kernel
theorem dL_holds_436 : decode cL_holds 436 = .ok (.goto 4, 3) := by decide +kernel
theorem dL_holds_439 : decode cL_holds 439 = .ok (.iconst 0, 1) := by decide +kernel
theorem dL_holds_440 : decode cL_holds 440 = .ok (.ireturn, 1) := by decide +kernel
set_option maxRecDepth 20000 in
theorem ggL_types_L_low : GoodIn wsL_types wsL_low := goodIn_r _ [4, 5] (by decide +kernel) (by decide +kernel)
set_option maxRecDepth 20000 in
theorem gL_types_L_low : GoodIn wsL_types (va_wsS RL 52 yL_low wsL_low) := goodIn_app (goodIn_of _ (by decide +kernel)) ggL_types_L_low
set_option maxRecDepth 20000 in
theorem ggL_types_X3_clearText : GoodIn wsL_types wsX3_clearText := goodIn_r _ [10, 11, 26, 27, 28, 29, 30] (by decide +kernel) (by decide +kernel)
set_option maxRecDepth 20000 in
theorem gL_types_X3_clearText : GoodIn wsL_types (wsV RL 55 RX3 yX3_clearText wsX3_clearText) := goodIn_app (goodIn_of _ (by decide +kernel)) ggL_types_X3_clearText
set_option maxRecDepth 20000 in
theorem ggL_types_X3_type : GoodIn wsL_types wsX3_type := goodIn_r _ [15, 16, 11, 17, 18, 19, 20, 21, 22, 23, 24, 9, 25, 26, 27, 28, 29, 30] (by decide +kernel) (by decide +kernel)
set_option maxRecDepth 20000 in
theorem gL_types_X3_type : GoodIn wsL_types (wsV RL 58 RX3 yX3_type wsX3_type) := goodIn_app (goodIn_of _ (by decide +kernel)) ggL_types_X3_type
theorem dL_types_0 : decode cL_types 0 = .ok (.iload_n 1, 1) := by decide +kernel
theorem dL_types_1 : decode cL_types 1 = .ok (.iconst 5, 1) := by decide +kernel
theorem dL_types_2 : decode cL_types 2 = .ok (.invokestatic 52, 3) := by decide +kernel
theorem dL_types_5 : decode cL_types 5 = .ok (.istore_n 2, 1) := by decide +kernel
theorem dL_types_6 : decode cL_types 6 = .ok (.aload_n 0, 1) := by decide +kernel
theorem dL_types_7 : decode cL_types 7 = .ok (.invokevirtual 55, 3) := by decide +kernel
theorem dL_types_10 : decode cL_types 10 = .ok (.ifCond .lt 7, 3) := by decide +kernel
theorem dL_types_13 : decode cL_types 13 = .ok (.iconst 1, 1) := by decide +kernel
theorem dL_types_14 : decode cL_types 14 = .ok (.goto 4, 3) := by decide +kernel
theorem dL_types_17 : decode cL_types 17 = .ok (.iconst 0, 1) := by decide +kernel
theorem dL_types_18 : decode cL_types 18 = .ok (.istore_n 3, 1) := by decide +kernel
theorem dL_types_19 : decode cL_types 19 = .ok (.iconst 0, 1) := by decide +kernel
theorem dL_types_20 : decode cL_types 20 = .ok (.istore 4, 2) := by decide +kernel
theorem dL_types_22 : decode cL_types 22 = .ok (.iload 4, 2) := by decide +kernel
theorem dL_types_24 : decode cL_types 24 = .ok (.iload_n 2, 1) := by decide +kernel
theorem dL_types_25 : decode cL_types 25 = .ok (.if_icmp .ge 149, 3) := by decide +kernel
theorem dL_types_28 : decode cL_types 28 = .ok (.iload_n 1, 1) := by decide +kernel
theorem dL_types_29 : decode cL_types 29 = .ok (.iconst 3, 1) := by decide +kernel
theorem dL_types_30 : decode cL_types 30 = .ok (.iconst 5, 1) := by decide +kernel
theorem dL_types_31 : decode cL_types 31 = .ok (.iload 4, 2) := by decide +kernel
theorem dL_types_33 : decode cL_types 33 = .ok (.imul, 1) := by decide +kernel
theorem dL_types_34 : decode cL_types 34 = .ok (.iadd, 1) := by decide +kernel
theorem dL_types_35 : decode cL_types 35 = .ok (.ishr, 1) := by decide +kernel
theorem dL_types_36 : decode cL_types 36 = .ok (.istore 5, 2) := by decide +kernel
theorem dL_types_38 : decode cL_types 38 = .ok (.iconst 0, 1) := by decide +kernel
theorem dL_types_39 : decode cL_types 39 = .ok (.istore 6, 2) := by decide +kernel
theorem dL_types_41 : decode cL_types 41 = .ok (.iload 6, 2) := by decide +kernel
theorem dL_types_43 : decode cL_types 43 = .ok (.iconst 2, 1) := by decide +kernel
theorem dL_types_44 : decode cL_types 44 = .ok (.iload 5, 2) := by decide +kernel
theorem dL_types_46 : decode cL_types 46 = .ok (.iconst 2, 1) := by decide +kernel
theorem dL_types_47 : decode cL_types 47 = .ok (.invokestatic 52, 3) := by decide +kernel
theorem dL_types_50 : decode cL_types 50 = .ok (.iadd, 1) := by decide +kernel
theorem dL_types_51 : decode cL_types 51 = .ok (.if_icmp .ge 78, 3) := by decide +kernel
theorem dL_types_54 : decode cL_types 54 = .ok (.iload_n 3, 1) := by decide +kernel
theorem dL_types_55 : decode cL_types 55 = .ok (.ifCond .eq 66, 3) := by decide +kernel
theorem dL_types_58 : decode cL_types 58 = .ok (.iload 5, 2) := by decide +kernel
theorem dL_types_60 : decode cL_types 60 = .ok (.iload 6, 2) := by decide +kernel
theorem dL_types_62 : decode cL_types 62 = .ok (.ishr, 1) := by decide +kernel
theorem dL_types_63 : decode cL_types 63 = .ok (.iconst 2, 1) := by decide +kernel
theorem dL_types_64 : decode cL_types 64 = .ok (.invokestatic 52, 3) := by decide +kernel
theorem dL_types_67 : decode cL_types 67 = .ok (.ifCond .eq 12, 3) := by decide +kernel
theorem dL_types_70 : decode cL_types 70 = .ok (.aload_n 0, 1) := by decide +kernel
theorem dL_types_71 : decode cL_types 71 = .ok (.bipush 45, 2) := by decide +kernel
theorem dL_types_73 : decode cL_types 73 = .ok (.invokevirtual 58, 3) := by decide +kernel
theorem dL_types_76 : decode cL_types 76 = .ok (.ifCond .le 45, 3) := by decide +kernel
theorem dL_types_79 : decode cL_types 79 = .ok (.aload_n 0, 1) := by decide +kernel
theorem dL_types_80 : decode cL_types 80 = .ok (.bipush 97, 2) := by decide +kernel
theorem dL_types_82 : decode cL_types 82 = .ok (.iload 5, 2) := by decide +kernel
theorem dL_types_84 : decode cL_types 84 = .ok (.iconst 2, 1) := by decide +kernel
theorem dL_types_85 : decode cL_types 85 = .ok (.iload 6, 2) := by decide +kernel
theorem dL_types_87 : decode cL_types 87 = .ok (.imul, 1) := by decide +kernel
theorem dL_types_88 : decode cL_types 88 = .ok (.ishr, 1) := by decide +kernel
theorem dL_types_89 : decode cL_types 89 = .ok (.iload_n 1, 1) := by decide +kernel
theorem dL_types_90 : decode cL_types 90 = .ok (.bipush 25, 2) := by decide +kernel
theorem dL_types_92 : decode cL_types 92 = .ok (.ishr, 1) := by decide +kernel
theorem dL_types_93 : decode cL_types 93 = .ok (.bipush 9, 2) := by decide +kernel
theorem dL_types_95 : decode cL_types 95 = .ok (.invokestatic 52, 3) := by decide +kernel
theorem dL_types_98 : decode cL_types 98 = .ok (.ifCond .ne 8, 3) := by decide +kernel
theorem dL_types_101 : decode cL_types 101 = .ok (.bipush 7, 2) := by decide +kernel
theorem dL_types_103 : decode cL_types 103 = .ok (.goto 4, 3) := by decide +kernel
theorem dL_types_106 : decode cL_types 106 = .ok (.iconst 4, 1) := by decide +kernel
theorem dL_types_107 : decode cL_types 107 = .ok (.invokestatic 52, 3) := by decide +kernel
theorem dL_types_110 : decode cL_types 110 = .ok (.iadd, 1) := by decide +kernel
theorem dL_types_111 : decode cL_types 111 = .ok (.invokevirtual 58, 3) := by decide +kernel
theorem dL_types_114 : decode cL_types 114 = .ok (.ifCond .le 7, 3) := by decide +kernel
theorem dL_types_117 : decode cL_types 117 = .ok (.iconst 1, 1) := by decide +kernel
theorem dL_types_118 : decode cL_types 118 = .ok (.goto 4, 3) := by decide +kernel
theorem dL_types_121 : decode cL_types 121 = .ok (.iconst 0, 1) := by decide +kernel
theorem dL_types_122 : decode cL_types 122 = .ok (.istore_n 3, 1) := by decide +kernel
theorem dL_types_123 : decode cL_types 123 = .ok (.iinc 6 1, 3) := by decide +kernel
theorem dL_types_126 : decode cL_types 126 = .ok (.goto (-85), 3) := by decide +kernel
theorem dL_types_129 : decode cL_types 129 = .ok (.iload_n 3, 1) := by decide +kernel
theorem dL_types_130 : decode cL_types 130 = .ok (.ifCond .eq 36, 3) := by decide +kernel
theorem dL_types_133 : decode cL_types 133 = .ok (.iload_n 1, 1) := by decide +kernel
theorem dL_types_134 : decode cL_types 134 = .ok (.bipush 23, 2) := by decide +kernel
theorem dL_types_136 : decode cL_types 136 = .ok (.ishr, 1) := by decide +kernel
theorem dL_types_137 : decode cL_types 137 = .ok (.bipush 7, 2) := by decide +kernel
theorem dL_types_139 : decode cL_types 139 = .ok (.invokestatic 52, 3) := by decide +kernel
theorem dL_types_142 : decode cL_types 142 = .ok (.ifCond .ne 11, 3) := by decide +kernel
theorem dL_types_145 : decode cL_types 145 = .ok (.iload 4, 2) := by decide +kernel
theorem dL_types_147 : decode cL_types 147 = .ok (.iload_n 2, 1) := by decide +kernel
theorem dL_types_148 : decode cL_types 148 = .ok (.iconst 1, 1) := by decide +kernel
theorem dL_types_149 : decode cL_types 149 = .ok (.isub, 1) := by decide +kernel
theorem dL_types_150 : decode cL_types 150 = .ok (.if_icmp .eq 12, 3) := by decide +kernel
theorem dL_types_153 : decode cL_types 153 = .ok (.aload_n 0, 1) := by decide +kernel
theorem dL_types_154 : decode cL_types 154 = .ok (.bipush 59, 2) := by decide +kernel
theorem dL_types_156 : decode cL_types 156 = .ok (.invokevirtual 58, 3) := by decide +kernel
theorem dL_types_159 : decode cL_types 159 = .ok (.ifCond .le 7, 3) := by decide +kernel
theorem dL_types_162 : decode cL_types 162 = .ok (.iconst 1, 1) := by decide +kernel
theorem dL_types_163 : decode cL_types 163 = .ok (.goto 4, 3) := by decide +kernel
theorem dL_types_166 : decode cL_types 166 = .ok (.iconst 0, 1) := by decide +kernel
theorem dL_types_167 : decode cL_types 167 = .ok (.istore_n 3, 1) := by decide +kernel
theorem dL_types_168 : decode cL_types 168 = .ok (.iinc 4 1, 3) := by decide +kernel
theorem dL_types_171 : decode cL_types 171 = .ok (.goto (-149), 3) := by decide +kernel
theorem dL_types_174 : decode cL_types 174 = .ok (.iload_n 3, 1) := by decide +kernel
theorem dL_types_175 : decode cL_types 175 = .ok (.ireturn, 1) := by decide +kernel
set_option maxRecDepth 20000 in
theorem ggL_plays_X3_fault : GoodIn wsL_plays wsX3_fault := goodIn_r _ [8, 9, 10, 11, 12, 13, 14, 15, 16, 17, 18, 7, 19, 20, 21, 22, 137, 138, 139, 140, 141] (by decide +kernel) (by decide +kernel)
set_option maxRecDepth 20000 in
theorem gL_plays_X3_fault : GoodIn wsL_plays (wsV RL 61 RX3 yX3_fault wsX3_fault) := goodIn_app (goodIn_of _ (by decide +kernel)) ggL_plays_X3_fault
set_option maxRecDepth 20000 in
theorem ggL_plays_X3_count : GoodIn wsL_plays wsX3_count := goodIn_r _ [26, 27, 28, 10, 9, 29, 30, 31, 32, 33, 34, 18, 7, 19, 35, 36, 37, 38, 137, 138, 139, 142, 143, 144, 145, 146, 147, 148, 149, 150, 151, 152, 153, 154, 155, 156, 140, 141] (by decide +kernel) (by decide +kernel)
set_option maxRecDepth 20000 in
theorem gL_plays_X3_count : GoodIn wsL_plays (wsV RL 13 RX3 yX3_count wsX3_count) := goodIn_app (goodIn_of _ (by decide +kernel)) ggL_plays_X3_count
set_option maxRecDepth 20000 in
theorem ggL_plays_X3_play : GoodIn wsL_plays wsX3_play := goodIn_r _ [42, 10, 43, 28, 27, 12, 13, 14, 15, 16, 17, 18, 7, 19, 44, 45, 46, 47, 48, 49, 50, 51, 52, 53, 54, 30, 55, 56, 38, 57, 34, 58, 59, 60, 61, 62, 33, 63, 64, 65, 66, 67, 68, 69, 70, 71, 72, 73, 74, 75, 76, 77, 78, 79, 80, 81, 82, 83, 84, 85, 86, 87, 88, 89, 90, 91, 92, 93, 94, 95, 96, 97, 98, 99, 100, 101, 102, 103, 104, 105, 106, 107, 108, 109, 110, 111, 112, 113, 114, 115, 116, 117, 118, 119, 120, 121, 122, 123, 124, 125, 126, 9, 127, 128, 129, 130, 131, 132, 133, 134, 135, 136, 137, 138, 139, 140, 141, 155, 156, 142, 143, 144, 145, 146, 147, 148, 149, 150, 151, 152, 153, 154] (by decide +kernel) (by decide +kernel)
set_option maxRecDepth 20000 in
theorem gL_plays_X3_play : GoodIn wsL_plays (wsV RL 64 RX3 yX3_play wsX3_play) := goodIn_app (goodIn_of _ (by decide +kernel)) ggL_plays_X3_play
theorem dL_plays_0 : decode cL_plays 0 = .ok (.aload_n 0, 1) := by decide +kernel
theorem dL_plays_1 : decode cL_plays 1 = .ok (.iconst 0, 1) := by decide +kernel
theorem dL_plays_2 : decode cL_plays 2 = .ok (.invokevirtual 61, 3) := by decide +kernel
theorem dL_plays_5 : decode cL_plays 5 = .ok (.istore_n 1, 1) := by decide +kernel
theorem dL_plays_6 : decode cL_plays 6 = .ok (.aload_n 0, 1) := by decide +kernel
theorem dL_plays_7 : decode cL_plays 7 = .ok (.iconst 1, 1) := by decide +kernel
theorem dL_plays_8 : decode cL_plays 8 = .ok (.invokevirtual 61, 3) := by decide +kernel
theorem dL_plays_11 : decode cL_plays 11 = .ok (.istore_n 2, 1) := by decide +kernel
theorem dL_plays_12 : decode cL_plays 12 = .ok (.aload_n 0, 1) := by decide +kernel
theorem dL_plays_13 : decode cL_plays 13 = .ok (.bipush 9, 2) := by decide +kernel
theorem dL_plays_15 : decode cL_plays 15 = .ok (.invokevirtual 13, 3) := by decide +kernel
theorem dL_plays_18 : decode cL_plays 18 = .ok (.istore_n 3, 1) := by decide +kernel
theorem dL_plays_19 : decode cL_plays 19 = .ok (.aload_n 0, 1) := by decide +kernel
theorem dL_plays_20 : decode cL_plays 20 = .ok (.iconst 0, 1) := by decide +kernel
theorem dL_plays_21 : decode cL_plays 21 = .ok (.invokevirtual 13, 3) := by decide +kernel
theorem dL_plays_24 : decode cL_plays 24 = .ok (.istore 4, 2) := by decide +kernel
theorem dL_plays_26 : decode cL_plays 26 = .ok (.aload_n 0, 1) := by decide +kernel
theorem dL_plays_27 : decode cL_plays 27 = .ok (.invokevirtual 64, 3) := by decide +kernel
theorem dL_plays_30 : decode cL_plays 30 = .ok (.istore 5, 2) := by decide +kernel
theorem dL_plays_32 : decode cL_plays 32 = .ok (.iload_n 1, 1) := by decide +kernel
theorem dL_plays_33 : decode cL_plays 33 = .ok (.ldc 38, 2) := by decide +kernel
theorem dL_plays_35 : decode cL_plays 35 = .ok (.if_icmp .ne 38, 3) := by decide +kernel
theorem dL_plays_38 : decode cL_plays 38 = .ok (.iload_n 2, 1) := by decide +kernel
theorem dL_plays_39 : decode cL_plays 39 = .ok (.ldc 38, 2) := by decide +kernel
theorem dL_plays_41 : decode cL_plays 41 = .ok (.if_icmp .ne 32, 3) := by decide +kernel
theorem dL_plays_44 : decode cL_plays 44 = .ok (.iload 5, 2) := by decide +kernel
theorem dL_plays_46 : decode cL_plays 46 = .ok (.ldc 67, 2) := by decide +kernel
theorem dL_plays_48 : decode cL_plays 48 = .ok (.if_icmp .eq 21, 3) := by decide +kernel
theorem dL_plays_51 : decode cL_plays 51 = .ok (.iload 5, 2) := by decide +kernel
theorem dL_plays_53 : decode cL_plays 53 = .ok (.ifCond .lt 20, 3) := by decide +kernel
theorem dL_plays_56 : decode cL_plays 56 = .ok (.aload_n 0, 1) := by decide +kernel
theorem dL_plays_57 : decode cL_plays 57 = .ok (.iconst 0, 1) := by decide +kernel
theorem dL_plays_58 : decode cL_plays 58 = .ok (.invokevirtual 13, 3) := by decide +kernel
theorem dL_plays_61 : decode cL_plays 61 = .ok (.iload 4, 2) := by decide +kernel
theorem dL_plays_63 : decode cL_plays 63 = .ok (.iload 5, 2) := by decide +kernel
theorem dL_plays_65 : decode cL_plays 65 = .ok (.iadd, 1) := by decide +kernel
theorem dL_plays_66 : decode cL_plays 66 = .ok (.if_icmp .ne 7, 3) := by decide +kernel
theorem dL_plays_69 : decode cL_plays 69 = .ok (.iconst 1, 1) := by decide +kernel
theorem dL_plays_70 : decode cL_plays 70 = .ok (.goto 4, 3) := by decide +kernel
theorem dL_plays_73 : decode cL_plays 73 = .ok (.iconst 0, 1) := by decide +kernel
theorem dL_plays_74 : decode cL_plays 74 = .ok (.istore 6, 2) := by decide +kernel
theorem dL_plays_76 : decode cL_plays 76 = .ok (.iload_n 1, 1) := by decide +kernel
theorem dL_plays_77 : decode cL_plays 77 = .ok (.ifCond .lt 30, 3) := by decide +kernel
theorem dL_plays_80 : decode cL_plays 80 = .ok (.iload_n 1, 1) := by decide +kernel
theorem dL_plays_81 : decode cL_plays 81 = .ok (.iload_n 3, 1) := by decide +kernel
theorem dL_plays_82 : decode cL_plays 82 = .ok (.if_icmp .ge 25, 3) := by decide +kernel
theorem dL_plays_85 : decode cL_plays 85 = .ok (.iload_n 2, 1) := by decide +kernel
theorem dL_plays_86 : decode cL_plays 86 = .ok (.ifCond .lt 21, 3) := by decide +kernel
theorem dL_plays_89 : decode cL_plays 89 = .ok (.iload_n 1, 1) := by decide +kernel
theorem dL_plays_90 : decode cL_plays 90 = .ok (.iload_n 2, 1) := by decide +kernel
theorem dL_plays_91 : decode cL_plays 91 = .ok (.iadd, 1) := by decide +kernel
theorem dL_plays_92 : decode cL_plays 92 = .ok (.iload_n 3, 1) := by decide +kernel
theorem dL_plays_93 : decode cL_plays 93 = .ok (.if_icmp .gt 14, 3) := by decide +kernel
theorem dL_plays_96 : decode cL_plays 96 = .ok (.iload 5, 2) := by decide +kernel
theorem dL_plays_98 : decode cL_plays 98 = .ok (.ldc 68, 2) := by decide +kernel
theorem dL_plays_100 : decode cL_plays 100 = .ok (.if_icmp .ne 7, 3) := by decide +kernel
theorem dL_plays_103 : decode cL_plays 103 = .ok (.iconst 1, 1) := by decide +kernel
theorem dL_plays_104 : decode cL_plays 104 = .ok (.goto 4, 3) := by decide +kernel
theorem dL_plays_107 : decode cL_plays 107 = .ok (.iconst 0, 1) := by decide +kernel
theorem dL_plays_108 : decode cL_plays 108 = .ok (.istore 7, 2) := by decide +kernel
theorem dL_plays_110 : decode cL_plays 110 = .ok (.iload 6, 2) := by decide +kernel
theorem dL_plays_112 : decode cL_plays 112 = .ok (.ifCond .ne 8, 3) := by decide +kernel
theorem dL_plays_115 : decode cL_plays 115 = .ok (.iload 7, 2) := by decide +kernel
theorem dL_plays_117 : decode cL_plays 117 = .ok (.ifCond .eq 17, 3) := by decide +kernel
theorem dL_plays_120 : decode cL_plays 120 = .ok (.aload_n 0, 1) := by decide +kernel
theorem dL_plays_121 : decode cL_plays 121 = .ok (.bipush 9, 2) := by decide +kernel
theorem dL_plays_123 : decode cL_plays 123 = .ok (.invokevirtual 13, 3) := by decide +kernel
theorem dL_plays_126 : decode cL_plays 126 = .ok (.iload_n 3, 1) := by decide +kernel
theorem dL_plays_127 : decode cL_plays 127 = .ok (.if_icmp .ne 7, 3) := by decide +kernel
theorem dL_plays_130 : decode cL_plays 130 = .ok (.iconst 1, 1) := by decide +kernel
theorem dL_plays_131 : decode cL_plays 131 = .ok (.goto 4, 3) := by decide +kernel
theorem dL_plays_134 : decode cL_plays 134 = .ok (.iconst 0, 1) := by decide +kernel
theorem dL_plays_135 : decode cL_plays 135 = .ok (.ireturn, 1) := by decide +kernel
set_option maxRecDepth 20000 in
theorem ggL_acts_L_low : GoodIn wsL_acts wsL_low := goodIn_r _ [8, 9] (by decide +kernel) (by decide +kernel)
set_option maxRecDepth 20000 in
theorem gL_acts_L_low : GoodIn wsL_acts (va_wsS RL 52 yL_low wsL_low) := goodIn_app (goodIn_of _ (by decide +kernel)) ggL_acts_L_low
set_option maxRecDepth 20000 in
theorem ggL_acts_X3_count : GoodIn wsL_acts wsX3_count := goodIn_r _ [14, 15, 16, 17, 18, 19, 20, 21, 22, 23, 24, 25, 13, 26, 27, 28, 29, 30, 257, 258, 259, 260, 261, 262, 263, 264, 265, 266, 267, 268, 269, 270, 271, 272, 273, 274, 275, 276] (by decide +kernel) (by decide +kernel)
set_option maxRecDepth 20000 in
theorem gL_acts_X3_count : GoodIn wsL_acts (wsV RL 13 RX3 yX3_count wsX3_count) := goodIn_app (goodIn_of _ (by decide +kernel)) ggL_acts_X3_count
set_option maxRecDepth 20000 in
theorem ggL_acts_X3_tell : GoodIn wsL_acts wsX3_tell := goodIn_r _ [34, 18, 16, 15, 35, 36, 37, 38, 39, 40, 41, 42, 43, 44, 45, 20, 46, 47, 30, 48, 24, 49, 50, 51, 52, 53, 23, 54, 55, 56, 57, 58, 13, 59, 60, 61, 62, 63, 64, 65, 66, 67, 68, 69, 70, 71, 72, 73, 74, 75, 76, 77, 78, 79, 80, 81, 82, 83, 25, 26, 84, 85, 86, 87, 88, 89, 90, 91, 92, 93, 94, 95, 96, 97, 98, 99, 100, 101, 102, 103, 104, 105, 106, 107, 108, 109, 110, 111, 112, 113, 114, 115, 116, 117, 118, 119, 120, 121, 257, 258, 259, 273, 274, 260, 261, 262, 263, 264, 265, 266, 267, 268, 269, 270, 271, 272] (by decide +kernel) (by decide +kernel)
set_option maxRecDepth 20000 in
theorem gL_acts_X3_tell : GoodIn wsL_acts (wsV RL 69 RX3 yX3_tell wsX3_tell) := goodIn_app (goodIn_of _ (by decide +kernel)) ggL_acts_X3_tell
set_option maxRecDepth 20000 in
theorem ggL_acts_X3_share : GoodIn wsL_acts wsX3_share := goodIn_r _ [125, 18, 126, 99, 13, 100, 101, 102, 103, 104, 105, 127, 128, 129, 130, 131, 132, 133, 134, 135, 136, 137] (by decide +kernel) (by decide +kernel)
set_option maxRecDepth 20000 in
theorem gL_acts_X3_share : GoodIn wsL_acts (wsV RL 73 RX3 yX3_share wsX3_share) := goodIn_app (goodIn_of _ (by decide +kernel)) ggL_acts_X3_share
set_option maxRecDepth 20000 in
theorem ggL_acts_X3_rank : GoodIn wsL_acts wsX3_rank := goodIn_r _ [141, 18, 16, 15, 35, 36, 37, 38, 39, 40, 41, 42, 43, 44, 45, 20, 46, 47, 30, 48, 24, 49, 50, 51, 52, 53, 23, 54, 55, 56, 57, 58, 13, 59, 60, 61, 62, 63, 64, 65, 66, 67, 68, 69, 142, 143, 144, 145, 27, 28, 29, 25, 26, 90, 91, 108, 109, 110, 111, 112, 113, 114, 115, 116, 117, 118, 119, 120, 121, 257, 258, 259, 273, 274, 260, 261, 262, 263, 264, 265, 266, 267, 268, 269, 270, 271, 272] (by decide +kernel) (by decide +kernel)
set_option maxRecDepth 20000 in
theorem gL_acts_X3_rank : GoodIn wsL_acts (wsV RL 77 RX3 yX3_rank wsX3_rank) := goodIn_app (goodIn_of _ (by decide +kernel)) ggL_acts_X3_rank
set_option maxRecDepth 20000 in
theorem ggL_acts_X3_set : GoodIn wsL_acts wsX3_set := goodIn_r _ [149, 18, 16, 15, 35, 36, 37, 38, 39, 40, 41, 42, 43, 44, 45, 20, 46, 47, 30, 48, 24, 49, 50, 51, 52, 53, 23, 54, 55, 56, 57, 58, 13, 59, 60, 61, 62, 63, 64, 65, 66, 67, 68, 69, 108, 109, 110, 111, 112, 113, 114, 115, 116, 117, 118, 119, 120, 121, 257, 258, 259, 260, 261, 262, 263, 264, 265, 266, 267, 268, 269, 270, 271, 272, 273, 274] (by decide +kernel) (by decide +kernel)
set_option maxRecDepth 20000 in
theorem gL_acts_X3_set : GoodIn wsL_acts (wsV RL 80 RX3 yX3_set wsX3_set) := goodIn_app (goodIn_of _ (by decide +kernel)) ggL_acts_X3_set
set_option maxRecDepth 20000 in
theorem ggL_acts_X3_empty : GoodIn wsL_acts wsX3_empty := goodIn_r _ [153, 16, 15, 35, 36, 37, 38, 39, 40, 41, 42, 43, 44, 45, 20, 46, 47, 30, 48, 24, 49, 50, 51, 52, 53, 23, 54, 55, 56, 57, 58, 13, 59, 60, 61, 62, 63, 64, 65, 66, 67, 68, 69, 108, 109, 110, 111, 18, 112, 113, 114, 115, 116, 117, 118, 119, 120, 121, 257, 258, 259, 260, 261, 262, 263, 264, 265, 266, 267, 268, 269, 270, 271, 272, 273, 274] (by decide +kernel) (by decide +kernel)
set_option maxRecDepth 20000 in
theorem gL_acts_X3_empty : GoodIn wsL_acts (wsV RL 83 RX3 yX3_empty wsX3_empty) := goodIn_app (goodIn_of _ (by decide +kernel)) ggL_acts_X3_empty
set_option maxRecDepth 20000 in
theorem ggL_acts_X3_step : GoodIn wsL_acts wsX3_step := goodIn_r _ [157, 16, 15, 35, 36, 37, 38, 39, 40, 41, 42, 43, 44, 45, 20, 46, 47, 30, 48, 24, 49, 50, 51, 52, 53, 23, 54, 55, 56, 57, 58, 13, 59, 60, 61, 62, 63, 64, 65, 66, 67, 68, 69, 158, 159, 160, 161, 73, 162, 163, 164, 165, 25, 26, 166, 167, 168, 169, 170, 171, 172, 173, 174, 175, 176, 90, 91, 177, 178, 179, 180, 181, 182, 183, 184, 80, 81, 82, 83, 185, 70, 71, 72, 74, 75, 76, 77, 78, 79, 84, 85, 86, 87, 88, 89, 92, 93, 94, 95, 96, 97, 98, 99, 100, 101, 102, 103, 104, 105, 106, 107, 108, 109, 110, 111, 18, 112, 113, 114, 115, 116, 117, 118, 119, 120, 121, 257, 258, 259, 273, 274, 260, 261, 262, 263, 264, 265, 266, 267, 268, 269, 270, 271, 272] (by decide +kernel) (by decide +kernel)
set_option maxRecDepth 20000 in
theorem gL_acts_X3_step : GoodIn wsL_acts (wsV RL 86 RX3 yX3_step wsX3_step) := goodIn_app (goodIn_of _ (by decide +kernel)) ggL_acts_X3_step
set_option maxRecDepth 20000 in
theorem ggL_acts_X3_refutation : GoodIn wsL_acts wsX3_refutation := goodIn_r _ [189, 15, 163, 20, 164, 165, 23, 48, 25, 13, 26, 190, 191, 192, 193, 257, 258, 259, 260, 261, 262, 263, 264, 265, 266, 267, 268, 269, 270, 271, 272] (by decide +kernel) (by decide +kernel)
set_option maxRecDepth 20000 in
theorem gL_acts_X3_refutation : GoodIn wsL_acts (wsV RL 39 RX3 yX3_refutation wsX3_refutation) := goodIn_app (goodIn_of _ (by decide +kernel)) ggL_acts_X3_refutation
set_option maxRecDepth 20000 in
theorem ggL_acts_X3_clauseOf : GoodIn wsL_acts wsX3_clauseOf := goodIn_r _ [197, 15, 18, 198, 20, 199, 200, 23, 201, 25, 13, 26, 182, 183, 184, 30, 190, 191, 192, 193, 202, 171, 172, 173, 174, 175, 176, 203, 204, 205, 48, 80, 81, 82, 83, 24, 206, 207, 208, 209, 181, 210, 211, 257, 258, 259, 260, 261, 262, 263, 264, 265, 266, 267, 268, 269, 270, 271, 272] (by decide +kernel) (by decide +kernel)
set_option maxRecDepth 20000 in
theorem gL_acts_X3_clauseOf : GoodIn wsL_acts (wsV RL 19 RX3 yX3_clauseOf wsX3_clauseOf) := goodIn_app (goodIn_of _ (by decide +kernel)) ggL_acts_X3_clauseOf
set_option maxRecDepth 20000 in
theorem ggL_acts_X3_run : GoodIn wsL_acts wsX3_run := goodIn_r _ [215, 18, 16, 15, 216, 217, 35, 36, 37, 38, 39, 40, 41, 42, 43, 44, 45, 20, 46, 47, 30, 48, 24, 49, 50, 51, 52, 53, 23, 54, 55, 56, 57, 58, 13, 59, 60, 61, 62, 63, 64, 65, 66, 67, 68, 69, 158, 159, 160, 161, 73, 162, 163, 164, 165, 25, 26, 166, 167, 168, 169, 170, 171, 172, 173, 174, 175, 176, 90, 91, 177, 178, 179, 180, 181, 182, 183, 184, 80, 81, 82, 83, 185, 70, 71, 72, 74, 75, 76, 77, 78, 79, 84, 85, 86, 87, 88, 89, 92, 93, 94, 95, 96, 97, 98, 99, 100, 101, 102, 103, 104, 105, 106, 107, 108, 109, 110, 111, 112, 113, 114, 115, 116, 117, 118, 119, 120, 121, 257, 258, 259, 273, 274, 260, 261, 262, 263, 264, 265, 266, 267, 268, 269, 270, 271, 272] (by decide +kernel) (by decide +kernel)
set_option maxRecDepth 20000 in
theorem gL_acts_X3_run : GoodIn wsL_acts (wsV RL 89 RX3 yX3_run wsX3_run) := goodIn_app (goodIn_of _ (by decide +kernel)) ggL_acts_X3_run
set_option maxRecDepth 20000 in
theorem ggL_acts_L_types : GoodIn wsL_acts wsL_types := goodIn_r _ [220, 5, 6, 7, 8, 9, 221, 222, 223, 13, 224, 17, 225, 226, 227, 228, 18, 216, 229, 230, 231, 232, 233, 234, 90, 91, 257, 258, 259, 275, 276] (by decide +kernel) (by decide +kernel)
set_option maxRecDepth 20000 in
theorem gL_acts_L_types : GoodIn wsL_acts (va_wsS RL 92 yL_types wsL_types) := goodIn_app (goodIn_of _ (by decide +kernel)) ggL_acts_L_types
set_option maxRecDepth 20000 in
theorem ggL_acts_L_plays : GoodIn wsL_acts wsL_plays := goodIn_r _ [237, 238, 3, 4, 239, 240, 241, 13, 242, 18, 17, 193, 243, 230, 244, 245, 233, 234, 25, 26, 246, 247, 248, 10, 11, 12, 14, 15, 16, 19, 20, 21, 22, 23, 24, 27, 28, 29, 30, 249, 250, 251, 252, 217, 35, 36, 37, 38, 39, 40, 41, 42, 43, 44, 45, 46, 47, 48, 49, 50, 51, 52, 53, 54, 55, 56, 57, 58, 59, 60, 61, 62, 63, 64, 65, 66, 67, 68, 69, 253, 254, 255, 256, 216, 201, 70, 71, 72, 73, 74, 75, 76, 77, 78, 79, 80, 81, 82, 83, 84, 85, 86, 87, 88, 89, 90, 91, 92, 93, 94, 95, 96, 97, 98, 99, 100, 101, 102, 103, 104, 105, 106, 107, 108, 109, 110, 111, 112, 113, 114, 115, 116, 117, 118, 119, 120, 121, 257, 258, 259, 275, 276, 260, 261, 262, 263, 264, 265, 266, 267, 268, 269, 270, 271, 272, 273, 274] (by decide +kernel) (by decide +kernel)
set_option maxRecDepth 20000 in
theorem gL_acts_L_plays : GoodIn wsL_acts (va_wsS RL 96 yL_plays wsL_plays) := goodIn_app (goodIn_of _ (by decide +kernel)) ggL_acts_L_plays
theorem dL_acts_0 : decode cL_acts 0 = .ok (.iload_n 1, 1) := by decide +kernel
theorem dL_acts_1 : decode cL_acts 1 = .ok (.bipush 16, 2) := by decide +kernel
theorem dL_acts_3 : decode cL_acts 3 = .ok (.invokestatic 52, 3) := by decide +kernel
theorem dL_acts_6 : decode cL_acts 6 = .ok (.istore_n 3, 1) := by decide +kernel
theorem dL_acts_7 : decode cL_acts 7 = .ok (.aload_n 0, 1) := by decide +kernel
theorem dL_acts_8 : decode cL_acts 8 = .ok (.iconst 0, 1) := by decide +kernel
theorem dL_acts_9 : decode cL_acts 9 = .ok (.invokevirtual 13, 3) := by decide +kernel
theorem dL_acts_12 : decode cL_acts 12 = .ok (.istore 4, 2) := by decide +kernel
theorem dL_acts_14 : decode cL_acts 14 = .ok (.iload_n 3, 1) := by decide +kernel
theorem dL_acts_15 : decode cL_acts 15 = .ok (.bipush 6, 2) := by decide +kernel
theorem dL_acts_17 : decode cL_acts 17 = .ok (.if_icmp .ge 150, 3) := by decide +kernel
theorem dL_acts_20 : decode cL_acts 20 = .ok (.iconst 1, 1) := by decide +kernel
theorem dL_acts_21 : decode cL_acts 21 = .ok (.iload_n 2, 1) := by decide +kernel
theorem dL_acts_22 : decode cL_acts 22 = .ok (.bipush 8, 2) := by decide +kernel
theorem dL_acts_24 : decode cL_acts 24 = .ok (.invokestatic 52, 3) := by decide +kernel
theorem dL_acts_27 : decode cL_acts 27 = .ok (.ishl, 1) := by decide +kernel
theorem dL_acts_28 : decode cL_acts 28 = .ok (.iconst 1, 1) := by decide +kernel
theorem dL_acts_29 : decode cL_acts 29 = .ok (.iload_n 2, 1) := by decide +kernel
theorem dL_acts_30 : decode cL_acts 30 = .ok (.iconst 3, 1) := by decide +kernel
theorem dL_acts_31 : decode cL_acts 31 = .ok (.ishr, 1) := by decide +kernel
theorem dL_acts_32 : decode cL_acts 32 = .ok (.bipush 10, 2) := by decide +kernel
theorem dL_acts_34 : decode cL_acts 34 = .ok (.invokestatic 52, 3) := by decide +kernel
theorem dL_acts_37 : decode cL_acts 37 = .ok (.ishl, 1) := by decide +kernel
theorem dL_acts_38 : decode cL_acts 38 = .ok (.ior, 1) := by decide +kernel
theorem dL_acts_39 : decode cL_acts 39 = .ok (.iconst 1, 1) := by decide +kernel
theorem dL_acts_40 : decode cL_acts 40 = .ok (.iload_n 2, 1) := by decide +kernel
theorem dL_acts_41 : decode cL_acts 41 = .ok (.bipush 7, 2) := by decide +kernel
theorem dL_acts_43 : decode cL_acts 43 = .ok (.ishr, 1) := by decide +kernel
theorem dL_acts_44 : decode cL_acts 44 = .ok (.bipush 13, 2) := by decide +kernel
theorem dL_acts_46 : decode cL_acts 46 = .ok (.invokestatic 52, 3) := by decide +kernel
theorem dL_acts_49 : decode cL_acts 49 = .ok (.ishl, 1) := by decide +kernel
theorem dL_acts_50 : decode cL_acts 50 = .ok (.ior, 1) := by decide +kernel
theorem dL_acts_51 : decode cL_acts 51 = .ok (.istore 5, 2) := by decide +kernel
theorem dL_acts_53 : decode cL_acts 53 = .ok (.aload_n 0, 1) := by decide +kernel
theorem dL_acts_54 : decode cL_acts 54 = .ok (.iload 5, 2) := by decide +kernel
theorem dL_acts_56 : decode cL_acts 56 = .ok (.invokevirtual 69, 3) := by decide +kernel
theorem dL_acts_59 : decode cL_acts 59 = .ok (.istore 6, 2) := by decide +kernel
theorem dL_acts_61 : decode cL_acts 61 = .ok (.iload 5, 2) := by decide +kernel
theorem dL_acts_63 : decode cL_acts 63 = .ok (.sipush 4095, 3) := by decide +kernel
theorem dL_acts_66 : decode cL_acts 66 = .ok (.if_icmp .le 18, 3) := by decide +kernel
theorem dL_acts_69 : decode cL_acts 69 = .ok (.iload 6, 2) := by decide +kernel
theorem dL_acts_71 : decode cL_acts 71 = .ok (.ldc 72, 2) := by decide +kernel
theorem dL_acts_73 : decode cL_acts 73 = .ok (.if_icmp .ne 7, 3) := by decide +kernel
theorem dL_acts_76 : decode cL_acts 76 = .ok (.iconst 1, 1) := by decide +kernel
theorem dL_acts_77 : decode cL_acts 77 = .ok (.goto 89, 3) := by decide +kernel
theorem dL_acts_80 : decode cL_acts 80 = .ok (.iconst 0, 1) := by decide +kernel
theorem dL_acts_81 : decode cL_acts 81 = .ok (.goto 85, 3) := by decide +kernel
theorem dL_acts_84 : decode cL_acts 84 = .ok (.iload 6, 2) := by decide +kernel
theorem dL_acts_86 : decode cL_acts 86 = .ok (.iload 4, 2) := by decide +kernel
theorem dL_acts_88 : decode cL_acts 88 = .ok (.if_icmp .ne 15, 3) := by decide +kernel
theorem dL_acts_91 : decode cL_acts 91 = .ok (.aload_n 0, 1) := by decide +kernel
theorem dL_acts_92 : decode cL_acts 92 = .ok (.iconst 0, 1) := by decide +kernel
theorem dL_acts_93 : decode cL_acts 93 = .ok (.invokevirtual 13, 3) := by decide +kernel
theorem dL_acts_96 : decode cL_acts 96 = .ok (.iload 4, 2) := by decide +kernel
theorem dL_acts_98 : decode cL_acts 98 = .ok (.iconst 1, 1) := by decide +kernel
theorem dL_acts_99 : decode cL_acts 99 = .ok (.iadd, 1) := by decide +kernel
